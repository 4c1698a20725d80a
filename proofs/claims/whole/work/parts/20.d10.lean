theorem dX11_join_0 : decode cX11_join 0 = .ok (.aload_n 0, 1) := by decide +kernel
theorem dX11_join_1 : decode cX11_join 1 = .ok (.iconst 0, 1) := by decide +kernel
theorem dX11_join_2 : decode cX11_join 2 = .ok (.putfield 1, 3) := by decide +kernel
theorem dX11_join_5 : decode cX11_join 5 = .ok (.aload_n 0, 1) := by decide +kernel
theorem dX11_join_6 : decode cX11_join 6 = .ok (.iload_n 1, 1) := by decide +kernel
theorem dX11_join_7 : decode cX11_join 7 = .ok (.invokevirtual 258, 3) := by decide +kernel
theorem dX11_join_10 : decode cX11_join 10 = .ok (.ifCond .eq 29, 3) := by decide +kernel
theorem dX11_join_13 : decode cX11_join 13 = .ok (.aload_n 0, 1) := by decide +kernel
theorem dX11_join_14 : decode cX11_join 14 = .ok (.iload_n 2, 1) := by decide +kernel
theorem dX11_join_15 : decode cX11_join 15 = .ok (.invokevirtual 258, 3) := by decide +kernel
theorem dX11_join_18 : decode cX11_join 18 = .ok (.ifCond .eq 21, 3) := by decide +kernel
theorem dX11_join_21 : decode cX11_join 21 = .ok (.iload_n 1, 1) := by decide +kernel
theorem dX11_join_22 : decode cX11_join 22 = .ok (.iload_n 2, 1) := by decide +kernel
theorem dX11_join_23 : decode cX11_join 23 = .ok (.if_icmp .eq 16, 3) := by decide +kernel
theorem dX11_join_26 : decode cX11_join 26 = .ok (.aload_n 0, 1) := by decide +kernel
theorem dX11_join_27 : decode cX11_join 27 = .ok (.getfield 33, 3) := by decide +kernel
theorem dX11_join_30 : decode cX11_join 30 = .ok (.sipush 427, 3) := by decide +kernel
theorem dX11_join_33 : decode cX11_join 33 = .ok (.iload_n 2, 1) := by decide +kernel
theorem dX11_join_34 : decode cX11_join 34 = .ok (.iadd, 1) := by decide +kernel
theorem dX11_join_35 : decode cX11_join 35 = .ok (.iaload, 1) := by decide +kernel
theorem dX11_join_36 : decode cX11_join 36 = .ok (.ifCond .ne 7, 3) := by decide +kernel
theorem dX11_join_39 : decode cX11_join 39 = .ok (.sipush (-10001), 3) := by decide +kernel
theorem dX11_join_42 : decode cX11_join 42 = .ok (.ireturn, 1) := by decide +kernel
theorem dX11_join_43 : decode cX11_join 43 = .ok (.aload_n 0, 1) := by decide +kernel
theorem dX11_join_44 : decode cX11_join 44 = .ok (.invokevirtual 323, 3) := by decide +kernel
theorem dX11_join_47 : decode cX11_join 47 = .ok (.aload_n 0, 1) := by decide +kernel
theorem dX11_join_48 : decode cX11_join 48 = .ok (.getfield 53, 3) := by decide +kernel
theorem dX11_join_51 : decode cX11_join 51 = .ok (.iload_n 1, 1) := by decide +kernel
theorem dX11_join_52 : decode cX11_join 52 = .ok (.iaload, 1) := by decide +kernel
theorem dX11_join_53 : decode cX11_join 53 = .ok (.aload_n 0, 1) := by decide +kernel
theorem dX11_join_54 : decode cX11_join 54 = .ok (.getfield 53, 3) := by decide +kernel
theorem dX11_join_57 : decode cX11_join 57 = .ok (.iload_n 2, 1) := by decide +kernel
theorem dX11_join_58 : decode cX11_join 58 = .ok (.iaload, 1) := by decide +kernel
theorem dX11_join_59 : decode cX11_join 59 = .ok (.iadd, 1) := by decide +kernel
theorem dX11_join_60 : decode cX11_join 60 = .ok (.istore_n 3, 1) := by decide +kernel
theorem dX11_join_61 : decode cX11_join 61 = .ok (.aload_n 0, 1) := by decide +kernel
theorem dX11_join_62 : decode cX11_join 62 = .ok (.getfield 33, 3) := by decide +kernel
theorem dX11_join_65 : decode cX11_join 65 = .ok (.sipush 427, 3) := by decide +kernel
theorem dX11_join_68 : decode cX11_join 68 = .ok (.iload_n 1, 1) := by decide +kernel
theorem dX11_join_69 : decode cX11_join 69 = .ok (.iadd, 1) := by decide +kernel
theorem dX11_join_70 : decode cX11_join 70 = .ok (.iaload, 1) := by decide +kernel
theorem dX11_join_71 : decode cX11_join 71 = .ok (.istore 4, 2) := by decide +kernel
theorem dX11_join_73 : decode cX11_join 73 = .ok (.aload_n 0, 1) := by decide +kernel
theorem dX11_join_74 : decode cX11_join 74 = .ok (.getfield 33, 3) := by decide +kernel
theorem dX11_join_77 : decode cX11_join 77 = .ok (.sipush 436, 3) := by decide +kernel
theorem dX11_join_80 : decode cX11_join 80 = .ok (.iload_n 1, 1) := by decide +kernel
theorem dX11_join_81 : decode cX11_join 81 = .ok (.iadd, 1) := by decide +kernel
theorem dX11_join_82 : decode cX11_join 82 = .ok (.iaload, 1) := by decide +kernel
theorem dX11_join_83 : decode cX11_join 83 = .ok (.istore 5, 2) := by decide +kernel
theorem dX11_join_85 : decode cX11_join 85 = .ok (.aload_n 0, 1) := by decide +kernel
theorem dX11_join_86 : decode cX11_join 86 = .ok (.getfield 33, 3) := by decide +kernel
theorem dX11_join_89 : decode cX11_join 89 = .ok (.sipush 445, 3) := by decide +kernel
theorem dX11_join_92 : decode cX11_join 92 = .ok (.iload_n 1, 1) := by decide +kernel
theorem dX11_join_93 : decode cX11_join 93 = .ok (.iadd, 1) := by decide +kernel
theorem dX11_join_94 : decode cX11_join 94 = .ok (.iaload, 1) := by decide +kernel
theorem dX11_join_95 : decode cX11_join 95 = .ok (.istore 6, 2) := by decide +kernel
theorem dX11_join_97 : decode cX11_join 97 = .ok (.aload_n 0, 1) := by decide +kernel
theorem dX11_join_98 : decode cX11_join 98 = .ok (.getfield 33, 3) := by decide +kernel
theorem dX11_join_101 : decode cX11_join 101 = .ok (.sipush 427, 3) := by decide +kernel
theorem dX11_join_104 : decode cX11_join 104 = .ok (.iload_n 1, 1) := by decide +kernel
theorem dX11_join_105 : decode cX11_join 105 = .ok (.iadd, 1) := by decide +kernel
theorem dX11_join_106 : decode cX11_join 106 = .ok (.aload_n 0, 1) := by decide +kernel
theorem dX11_join_107 : decode cX11_join 107 = .ok (.getfield 33, 3) := by decide +kernel
theorem dX11_join_110 : decode cX11_join 110 = .ok (.sipush 427, 3) := by decide +kernel
theorem dX11_join_113 : decode cX11_join 113 = .ok (.iload_n 2, 1) := by decide +kernel
theorem dX11_join_114 : decode cX11_join 114 = .ok (.iadd, 1) := by decide +kernel
theorem dX11_join_115 : decode cX11_join 115 = .ok (.iaload, 1) := by decide +kernel
theorem dX11_join_116 : decode cX11_join 116 = .ok (.iastore, 1) := by decide +kernel
theorem dX11_join_117 : decode cX11_join 117 = .ok (.aload_n 0, 1) := by decide +kernel
theorem dX11_join_118 : decode cX11_join 118 = .ok (.getfield 33, 3) := by decide +kernel
theorem dX11_join_121 : decode cX11_join 121 = .ok (.sipush 436, 3) := by decide +kernel
theorem dX11_join_124 : decode cX11_join 124 = .ok (.iload_n 1, 1) := by decide +kernel
theorem dX11_join_125 : decode cX11_join 125 = .ok (.iadd, 1) := by decide +kernel
theorem dX11_join_126 : decode cX11_join 126 = .ok (.aload_n 0, 1) := by decide +kernel
theorem dX11_join_127 : decode cX11_join 127 = .ok (.getfield 33, 3) := by decide +kernel
theorem dX11_join_130 : decode cX11_join 130 = .ok (.sipush 436, 3) := by decide +kernel
theorem dX11_join_133 : decode cX11_join 133 = .ok (.iload_n 2, 1) := by decide +kernel
theorem dX11_join_134 : decode cX11_join 134 = .ok (.iadd, 1) := by decide +kernel
theorem dX11_join_135 : decode cX11_join 135 = .ok (.iaload, 1) := by decide +kernel
theorem dX11_join_136 : decode cX11_join 136 = .ok (.iastore, 1) := by decide +kernel
theorem dX11_join_137 : decode cX11_join 137 = .ok (.aload_n 0, 1) := by decide +kernel
theorem dX11_join_138 : decode cX11_join 138 = .ok (.getfield 33, 3) := by decide +kernel
theorem dX11_join_141 : decode cX11_join 141 = .ok (.sipush 445, 3) := by decide +kernel
theorem dX11_join_144 : decode cX11_join 144 = .ok (.iload_n 1, 1) := by decide +kernel
theorem dX11_join_145 : decode cX11_join 145 = .ok (.iadd, 1) := by decide +kernel
theorem dX11_join_146 : decode cX11_join 146 = .ok (.aload_n 0, 1) := by decide +kernel
theorem dX11_join_147 : decode cX11_join 147 = .ok (.getfield 33, 3) := by decide +kernel
theorem dX11_join_150 : decode cX11_join 150 = .ok (.sipush 445, 3) := by decide +kernel
theorem dX11_join_153 : decode cX11_join 153 = .ok (.iload_n 2, 1) := by decide +kernel
theorem dX11_join_154 : decode cX11_join 154 = .ok (.iadd, 1) := by decide +kernel
theorem dX11_join_155 : decode cX11_join 155 = .ok (.iaload, 1) := by decide +kernel
theorem dX11_join_156 : decode cX11_join 156 = .ok (.iastore, 1) := by decide +kernel
theorem dX11_join_157 : decode cX11_join 157 = .ok (.aload_n 0, 1) := by decide +kernel
theorem dX11_join_158 : decode cX11_join 158 = .ok (.invokevirtual 323, 3) := by decide +kernel
theorem dX11_join_161 : decode cX11_join 161 = .ok (.aload_n 0, 1) := by decide +kernel
theorem dX11_join_162 : decode cX11_join 162 = .ok (.getfield 33, 3) := by decide +kernel
theorem dX11_join_165 : decode cX11_join 165 = .ok (.sipush 427, 3) := by decide +kernel
theorem dX11_join_168 : decode cX11_join 168 = .ok (.iload_n 1, 1) := by decide +kernel
theorem dX11_join_169 : decode cX11_join 169 = .ok (.iadd, 1) := by decide +kernel
theorem dX11_join_170 : decode cX11_join 170 = .ok (.iload 4, 2) := by decide +kernel
theorem dX11_join_172 : decode cX11_join 172 = .ok (.iastore, 1) := by decide +kernel
theorem dX11_join_173 : decode cX11_join 173 = .ok (.aload_n 0, 1) := by decide +kernel
theorem dX11_join_174 : decode cX11_join 174 = .ok (.getfield 33, 3) := by decide +kernel
theorem dX11_join_177 : decode cX11_join 177 = .ok (.sipush 436, 3) := by decide +kernel
theorem dX11_join_180 : decode cX11_join 180 = .ok (.iload_n 1, 1) := by decide +kernel
theorem dX11_join_181 : decode cX11_join 181 = .ok (.iadd, 1) := by decide +kernel
theorem dX11_join_182 : decode cX11_join 182 = .ok (.iload 5, 2) := by decide +kernel
theorem dX11_join_184 : decode cX11_join 184 = .ok (.iastore, 1) := by decide +kernel
theorem dX11_join_185 : decode cX11_join 185 = .ok (.aload_n 0, 1) := by decide +kernel
theorem dX11_join_186 : decode cX11_join 186 = .ok (.getfield 33, 3) := by decide +kernel
theorem dX11_join_189 : decode cX11_join 189 = .ok (.sipush 445, 3) := by decide +kernel
theorem dX11_join_192 : decode cX11_join 192 = .ok (.iload_n 1, 1) := by decide +kernel
theorem dX11_join_193 : decode cX11_join 193 = .ok (.iadd, 1) := by decide +kernel
theorem dX11_join_194 : decode cX11_join 194 = .ok (.iload 6, 2) := by decide +kernel
theorem dX11_join_196 : decode cX11_join 196 = .ok (.iastore, 1) := by decide +kernel
theorem dX11_join_197 : decode cX11_join 197 = .ok (.aload_n 0, 1) := by decide +kernel
theorem dX11_join_198 : decode cX11_join 198 = .ok (.getfield 53, 3) := by decide +kernel
theorem dX11_join_201 : decode cX11_join 201 = .ok (.iload_n 1, 1) := by decide +kernel
theorem dX11_join_202 : decode cX11_join 202 = .ok (.iaload, 1) := by decide +kernel
theorem dX11_join_203 : decode cX11_join 203 = .ok (.aload_n 0, 1) := by decide +kernel
theorem dX11_join_204 : decode cX11_join 204 = .ok (.getfield 53, 3) := by decide +kernel
theorem dX11_join_207 : decode cX11_join 207 = .ok (.iload_n 2, 1) := by decide +kernel
theorem dX11_join_208 : decode cX11_join 208 = .ok (.iaload, 1) := by decide +kernel
theorem dX11_join_209 : decode cX11_join 209 = .ok (.iadd, 1) := by decide +kernel
theorem dX11_join_210 : decode cX11_join 210 = .ok (.iload_n 3, 1) := by decide +kernel
theorem dX11_join_211 : decode cX11_join 211 = .ok (.isub, 1) := by decide +kernel
theorem dX11_join_212 : decode cX11_join 212 = .ok (.ireturn, 1) := by decide +kernel
theorem dX11_isLaw_0 : decode cX11_isLaw 0 = .ok (.iconst 0, 1) := by decide +kernel
theorem dX11_isLaw_1 : decode cX11_isLaw 1 = .ok (.istore_n 2, 1) := by decide +kernel
theorem dX11_isLaw_2 : decode cX11_isLaw 2 = .ok (.iload_n 2, 1) := by decide +kernel
theorem dX11_isLaw_3 : decode cX11_isLaw 3 = .ok (.aload_n 0, 1) := by decide +kernel
theorem dX11_isLaw_4 : decode cX11_isLaw 4 = .ok (.getfield 18, 3) := by decide +kernel
theorem dX11_isLaw_7 : decode cX11_isLaw 7 = .ok (.if_icmp .ge 82, 3) := by decide +kernel
theorem dX11_isLaw_10 : decode cX11_isLaw 10 = .ok (.iload_n 1, 1) := by decide +kernel
theorem dX11_isLaw_11 : decode cX11_isLaw 11 = .ok (.sipush 1000, 3) := by decide +kernel
theorem dX11_isLaw_14 : decode cX11_isLaw 14 = .ok (.idiv, 1) := by decide +kernel
theorem dX11_isLaw_15 : decode cX11_isLaw 15 = .ok (.aload_n 0, 1) := by decide +kernel
theorem dX11_isLaw_16 : decode cX11_isLaw 16 = .ok (.iload_n 2, 1) := by decide +kernel
theorem dX11_isLaw_17 : decode cX11_isLaw 17 = .ok (.invokevirtual 330, 3) := by decide +kernel
theorem dX11_isLaw_20 : decode cX11_isLaw 20 = .ok (.imul, 1) := by decide +kernel
theorem dX11_isLaw_21 : decode cX11_isLaw 21 = .ok (.iload_n 1, 1) := by decide +kernel
theorem dX11_isLaw_22 : decode cX11_isLaw 22 = .ok (.bipush 100, 2) := by decide +kernel
theorem dX11_isLaw_24 : decode cX11_isLaw 24 = .ok (.idiv, 1) := by decide +kernel
theorem dX11_isLaw_25 : decode cX11_isLaw 25 = .ok (.bipush 10, 2) := by decide +kernel
theorem dX11_isLaw_27 : decode cX11_isLaw 27 = .ok (.irem, 1) := by decide +kernel
theorem dX11_isLaw_28 : decode cX11_isLaw 28 = .ok (.iconst 2, 1) := by decide +kernel
theorem dX11_isLaw_29 : decode cX11_isLaw 29 = .ok (.imul, 1) := by decide +kernel
theorem dX11_isLaw_30 : decode cX11_isLaw 30 = .ok (.aload_n 0, 1) := by decide +kernel
theorem dX11_isLaw_31 : decode cX11_isLaw 31 = .ok (.iload_n 2, 1) := by decide +kernel
theorem dX11_isLaw_32 : decode cX11_isLaw 32 = .ok (.iconst 1, 1) := by decide +kernel
theorem dX11_isLaw_33 : decode cX11_isLaw 33 = .ok (.iadd, 1) := by decide +kernel
theorem dX11_isLaw_34 : decode cX11_isLaw 34 = .ok (.invokevirtual 330, 3) := by decide +kernel
theorem dX11_isLaw_37 : decode cX11_isLaw 37 = .ok (.imul, 1) := by decide +kernel
theorem dX11_isLaw_38 : decode cX11_isLaw 38 = .ok (.iadd, 1) := by decide +kernel
theorem dX11_isLaw_39 : decode cX11_isLaw 39 = .ok (.iload_n 1, 1) := by decide +kernel
theorem dX11_isLaw_40 : decode cX11_isLaw 40 = .ok (.bipush 10, 2) := by decide +kernel
theorem dX11_isLaw_42 : decode cX11_isLaw 42 = .ok (.idiv, 1) := by decide +kernel
theorem dX11_isLaw_43 : decode cX11_isLaw 43 = .ok (.bipush 10, 2) := by decide +kernel
theorem dX11_isLaw_45 : decode cX11_isLaw 45 = .ok (.irem, 1) := by decide +kernel
theorem dX11_isLaw_46 : decode cX11_isLaw 46 = .ok (.aload_n 0, 1) := by decide +kernel
theorem dX11_isLaw_47 : decode cX11_isLaw 47 = .ok (.iload_n 2, 1) := by decide +kernel
theorem dX11_isLaw_48 : decode cX11_isLaw 48 = .ok (.iconst 2, 1) := by decide +kernel
theorem dX11_isLaw_49 : decode cX11_isLaw 49 = .ok (.iadd, 1) := by decide +kernel
theorem dX11_isLaw_50 : decode cX11_isLaw 50 = .ok (.invokevirtual 330, 3) := by decide +kernel
theorem dX11_isLaw_53 : decode cX11_isLaw 53 = .ok (.imul, 1) := by decide +kernel
theorem dX11_isLaw_54 : decode cX11_isLaw 54 = .ok (.iadd, 1) := by decide +kernel
theorem dX11_isLaw_55 : decode cX11_isLaw 55 = .ok (.iload_n 1, 1) := by decide +kernel
theorem dX11_isLaw_56 : decode cX11_isLaw 56 = .ok (.bipush 10, 2) := by decide +kernel
theorem dX11_isLaw_58 : decode cX11_isLaw 58 = .ok (.irem, 1) := by decide +kernel
theorem dX11_isLaw_59 : decode cX11_isLaw 59 = .ok (.aload_n 0, 1) := by decide +kernel
theorem dX11_isLaw_60 : decode cX11_isLaw 60 = .ok (.iload_n 2, 1) := by decide +kernel
theorem dX11_isLaw_61 : decode cX11_isLaw 61 = .ok (.iconst 3, 1) := by decide +kernel
theorem dX11_isLaw_62 : decode cX11_isLaw 62 = .ok (.iadd, 1) := by decide +kernel
theorem dX11_isLaw_63 : decode cX11_isLaw 63 = .ok (.invokevirtual 330, 3) := by decide +kernel
theorem dX11_isLaw_66 : decode cX11_isLaw 66 = .ok (.imul, 1) := by decide +kernel
theorem dX11_isLaw_67 : decode cX11_isLaw 67 = .ok (.isub, 1) := by decide +kernel
theorem dX11_isLaw_68 : decode cX11_isLaw 68 = .ok (.aload_n 0, 1) := by decide +kernel
theorem dX11_isLaw_69 : decode cX11_isLaw 69 = .ok (.iload_n 2, 1) := by decide +kernel
theorem dX11_isLaw_70 : decode cX11_isLaw 70 = .ok (.iconst 4, 1) := by decide +kernel
theorem dX11_isLaw_71 : decode cX11_isLaw 71 = .ok (.iadd, 1) := by decide +kernel
theorem dX11_isLaw_72 : decode cX11_isLaw 72 = .ok (.invokevirtual 330, 3) := by decide +kernel
theorem dX11_isLaw_75 : decode cX11_isLaw 75 = .ok (.bipush 100, 2) := by decide +kernel
theorem dX11_isLaw_77 : decode cX11_isLaw 77 = .ok (.isub, 1) := by decide +kernel
theorem dX11_isLaw_78 : decode cX11_isLaw 78 = .ok (.if_icmp .eq 5, 3) := by decide +kernel
theorem dX11_isLaw_81 : decode cX11_isLaw 81 = .ok (.iconst 0, 1) := by decide +kernel
theorem dX11_isLaw_82 : decode cX11_isLaw 82 = .ok (.ireturn, 1) := by decide +kernel
theorem dX11_isLaw_83 : decode cX11_isLaw 83 = .ok (.iinc 2 5, 3) := by decide +kernel
theorem dX11_isLaw_86 : decode cX11_isLaw 86 = .ok (.goto (-84), 3) := by decide +kernel
theorem dX11_isLaw_89 : decode cX11_isLaw 89 = .ok (.iconst 1, 1) := by decide +kernel
theorem dX11_isLaw_90 : decode cX11_isLaw 90 = .ok (.ireturn, 1) := by decide +kernel
theorem dX11_look_0 : decode cX11_look 0 = .ok (.aload_n 0, 1) := by decide +kernel
theorem dX11_look_1 : decode cX11_look 1 = .ok (.iconst 0, 1) := by decide +kernel
theorem dX11_look_2 : decode cX11_look 2 = .ok (.putfield 1, 3) := by decide +kernel
theorem dX11_look_5 : decode cX11_look 5 = .ok (.aload_n 0, 1) := by decide +kernel
theorem dX11_look_6 : decode cX11_look 6 = .ok (.sipush 940, 3) := by decide +kernel
theorem dX11_look_9 : decode cX11_look 9 = .ok (.invokevirtual 236, 3) := by decide +kernel
theorem dX11_look_12 : decode cX11_look 12 = .ok (.aload_n 0, 1) := by decide +kernel
theorem dX11_look_13 : decode cX11_look 13 = .ok (.getfield 18, 3) := by decide +kernel
theorem dX11_look_16 : decode cX11_look 16 = .ok (.iconst 5, 1) := by decide +kernel
theorem dX11_look_17 : decode cX11_look 17 = .ok (.irem, 1) := by decide +kernel
theorem dX11_look_18 : decode cX11_look 18 = .ok (.ifCond .ne 18, 3) := by decide +kernel
theorem dX11_look_21 : decode cX11_look 21 = .ok (.aload_n 0, 1) := by decide +kernel
theorem dX11_look_22 : decode cX11_look 22 = .ok (.getfield 18, 3) := by decide +kernel
theorem dX11_look_25 : decode cX11_look 25 = .ok (.iconst 5, 1) := by decide +kernel
theorem dX11_look_26 : decode cX11_look 26 = .ok (.idiv, 1) := by decide +kernel
theorem dX11_look_27 : decode cX11_look 27 = .ok (.iconst 1, 1) := by decide +kernel
theorem dX11_look_28 : decode cX11_look 28 = .ok (.bipush 12, 2) := by decide +kernel
theorem dX11_look_30 : decode cX11_look 30 = .ok (.invokestatic 194, 3) := by decide +kernel
theorem dX11_look_33 : decode cX11_look 33 = .ok (.ifCond .ne 5, 3) := by decide +kernel
theorem dX11_look_36 : decode cX11_look 36 = .ok (.iconst (-1), 1) := by decide +kernel
theorem dX11_look_37 : decode cX11_look 37 = .ok (.ireturn, 1) := by decide +kernel
theorem dX11_look_38 : decode cX11_look 38 = .ok (.iconst 0, 1) := by decide +kernel
theorem dX11_look_39 : decode cX11_look 39 = .ok (.istore_n 1, 1) := by decide +kernel
theorem dX11_look_40 : decode cX11_look 40 = .ok (.iload_n 1, 1) := by decide +kernel
theorem dX11_look_41 : decode cX11_look 41 = .ok (.aload_n 0, 1) := by decide +kernel
theorem dX11_look_42 : decode cX11_look 42 = .ok (.getfield 18, 3) := by decide +kernel
theorem dX11_look_45 : decode cX11_look 45 = .ok (.if_icmp .ge 55, 3) := by decide +kernel
theorem dX11_look_48 : decode cX11_look 48 = .ok (.aload_n 0, 1) := by decide +kernel
theorem dX11_look_49 : decode cX11_look 49 = .ok (.iload_n 1, 1) := by decide +kernel
theorem dX11_look_50 : decode cX11_look 50 = .ok (.invokevirtual 330, 3) := by decide +kernel
theorem dX11_look_53 : decode cX11_look 53 = .ok (.bipush 20, 2) := by decide +kernel
theorem dX11_look_55 : decode cX11_look 55 = .ok (.if_icmp .gt 37, 3) := by decide +kernel
theorem dX11_look_58 : decode cX11_look 58 = .ok (.aload_n 0, 1) := by decide +kernel
theorem dX11_look_59 : decode cX11_look 59 = .ok (.iload_n 1, 1) := by decide +kernel
theorem dX11_look_60 : decode cX11_look 60 = .ok (.iconst 1, 1) := by decide +kernel
theorem dX11_look_61 : decode cX11_look 61 = .ok (.iadd, 1) := by decide +kernel
theorem dX11_look_62 : decode cX11_look 62 = .ok (.invokevirtual 330, 3) := by decide +kernel
theorem dX11_look_65 : decode cX11_look 65 = .ok (.iconst 1, 1) := by decide +kernel
theorem dX11_look_66 : decode cX11_look 66 = .ok (.if_icmp .gt 26, 3) := by decide +kernel
theorem dX11_look_69 : decode cX11_look 69 = .ok (.aload_n 0, 1) := by decide +kernel
theorem dX11_look_70 : decode cX11_look 70 = .ok (.iload_n 1, 1) := by decide +kernel
theorem dX11_look_71 : decode cX11_look 71 = .ok (.iconst 2, 1) := by decide +kernel
theorem dX11_look_72 : decode cX11_look 72 = .ok (.iadd, 1) := by decide +kernel
theorem dX11_look_73 : decode cX11_look 73 = .ok (.invokevirtual 330, 3) := by decide +kernel
theorem dX11_look_76 : decode cX11_look 76 = .ok (.bipush 8, 2) := by decide +kernel
theorem dX11_look_78 : decode cX11_look 78 = .ok (.if_icmp .gt 14, 3) := by decide +kernel
theorem dX11_look_81 : decode cX11_look 81 = .ok (.aload_n 0, 1) := by decide +kernel
theorem dX11_look_82 : decode cX11_look 82 = .ok (.iload_n 1, 1) := by decide +kernel
theorem dX11_look_83 : decode cX11_look 83 = .ok (.iconst 3, 1) := by decide +kernel
theorem dX11_look_84 : decode cX11_look 84 = .ok (.iadd, 1) := by decide +kernel
theorem dX11_look_85 : decode cX11_look 85 = .ok (.invokevirtual 330, 3) := by decide +kernel
theorem dX11_look_88 : decode cX11_look 88 = .ok (.iconst 1, 1) := by decide +kernel
theorem dX11_look_89 : decode cX11_look 89 = .ok (.if_icmp .le 5, 3) := by decide +kernel
theorem dX11_look_92 : decode cX11_look 92 = .ok (.iconst (-1), 1) := by decide +kernel
theorem dX11_look_93 : decode cX11_look 93 = .ok (.ireturn, 1) := by decide +kernel
theorem dX11_look_94 : decode cX11_look 94 = .ok (.iinc 1 5, 3) := by decide +kernel
theorem dX11_look_97 : decode cX11_look 97 = .ok (.goto (-57), 3) := by decide +kernel
theorem dX11_look_100 : decode cX11_look 100 = .ok (.iconst 0, 1) := by decide +kernel
theorem dX11_look_101 : decode cX11_look 101 = .ok (.istore_n 1, 1) := by decide +kernel
theorem dX11_look_102 : decode cX11_look 102 = .ok (.aload_n 0, 1) := by decide +kernel
theorem dX11_look_103 : decode cX11_look 103 = .ok (.iconst 0, 1) := by decide +kernel
theorem dX11_look_104 : decode cX11_look 104 = .ok (.putfield 345, 3) := by decide +kernel
theorem dX11_look_107 : decode cX11_look 107 = .ok (.iconst 0, 1) := by decide +kernel
theorem dX11_look_108 : decode cX11_look 108 = .ok (.istore_n 2, 1) := by decide +kernel
theorem dX11_look_109 : decode cX11_look 109 = .ok (.iload_n 2, 1) := by decide +kernel
theorem dX11_look_110 : decode cX11_look 110 = .ok (.sipush 10000, 3) := by decide +kernel
theorem dX11_look_113 : decode cX11_look 113 = .ok (.if_icmp .ge 55, 3) := by decide +kernel
theorem dX11_look_116 : decode cX11_look 116 = .ok (.aload_n 0, 1) := by decide +kernel
theorem dX11_look_117 : decode cX11_look 117 = .ok (.iload_n 2, 1) := by decide +kernel
theorem dX11_look_118 : decode cX11_look 118 = .ok (.invokevirtual 348, 3) := by decide +kernel
theorem dX11_look_121 : decode cX11_look 121 = .ok (.ifCond .ne 6, 3) := by decide +kernel
theorem dX11_look_124 : decode cX11_look 124 = .ok (.goto 38, 3) := by decide +kernel
theorem dX11_look_127 : decode cX11_look 127 = .ok (.iinc 1 1, 3) := by decide +kernel
theorem dX11_look_130 : decode cX11_look 130 = .ok (.aload_n 0, 1) := by decide +kernel
theorem dX11_look_131 : decode cX11_look 131 = .ok (.getfield 345, 3) := by decide +kernel
theorem dX11_look_134 : decode cX11_look 134 = .ok (.bipush 100, 2) := by decide +kernel
theorem dX11_look_136 : decode cX11_look 136 = .ok (.if_icmp .ne 6, 3) := by decide +kernel
theorem dX11_look_139 : decode cX11_look 139 = .ok (.goto 23, 3) := by decide +kernel
theorem dX11_look_142 : decode cX11_look 142 = .ok (.aload_n 0, 1) := by decide +kernel
theorem dX11_look_143 : decode cX11_look 143 = .ok (.getfield 71, 3) := by decide +kernel
theorem dX11_look_146 : decode cX11_look 146 = .ok (.aload_n 0, 1) := by decide +kernel
theorem dX11_look_147 : decode cX11_look 147 = .ok (.getfield 345, 3) := by decide +kernel
theorem dX11_look_150 : decode cX11_look 150 = .ok (.iload_n 2, 1) := by decide +kernel
theorem dX11_look_151 : decode cX11_look 151 = .ok (.iastore, 1) := by decide +kernel
theorem dX11_look_152 : decode cX11_look 152 = .ok (.aload_n 0, 1) := by decide +kernel
theorem dX11_look_153 : decode cX11_look 153 = .ok (.dup, 1) := by decide +kernel
theorem dX11_look_154 : decode cX11_look 154 = .ok (.getfield 345, 3) := by decide +kernel
theorem dX11_look_157 : decode cX11_look 157 = .ok (.iconst 1, 1) := by decide +kernel
theorem dX11_look_158 : decode cX11_look 158 = .ok (.iadd, 1) := by decide +kernel
theorem dX11_look_159 : decode cX11_look 159 = .ok (.putfield 345, 3) := by decide +kernel
theorem dX11_look_162 : decode cX11_look 162 = .ok (.iinc 2 1, 3) := by decide +kernel
theorem dX11_look_165 : decode cX11_look 165 = .ok (.goto (-56), 3) := by decide +kernel
theorem dX11_look_168 : decode cX11_look 168 = .ok (.iload_n 1, 1) := by decide +kernel
theorem dX11_look_169 : decode cX11_look 169 = .ok (.ireturn, 1) := by decide +kernel
theorem dX11_held_0 : decode cX11_held 0 = .ok (.aload_n 0, 1) := by decide +kernel
theorem dX11_held_1 : decode cX11_held 1 = .ok (.iconst 0, 1) := by decide +kernel
theorem dX11_held_2 : decode cX11_held 2 = .ok (.putfield 1, 3) := by decide +kernel
theorem dX11_held_5 : decode cX11_held 5 = .ok (.iload_n 1, 1) := by decide +kernel
theorem dX11_held_6 : decode cX11_held 6 = .ok (.iconst 0, 1) := by decide +kernel
theorem dX11_held_7 : decode cX11_held 7 = .ok (.aload_n 0, 1) := by decide +kernel
theorem dX11_held_8 : decode cX11_held 8 = .ok (.getfield 345, 3) := by decide +kernel
theorem dX11_held_11 : decode cX11_held 11 = .ok (.iconst 1, 1) := by decide +kernel
theorem dX11_held_12 : decode cX11_held 12 = .ok (.isub, 1) := by decide +kernel
theorem dX11_held_13 : decode cX11_held 13 = .ok (.invokestatic 194, 3) := by decide +kernel
theorem dX11_held_16 : decode cX11_held 16 = .ok (.ifCond .eq 12, 3) := by decide +kernel
theorem dX11_held_19 : decode cX11_held 19 = .ok (.aload_n 0, 1) := by decide +kernel
theorem dX11_held_20 : decode cX11_held 20 = .ok (.getfield 71, 3) := by decide +kernel
theorem dX11_held_23 : decode cX11_held 23 = .ok (.iload_n 1, 1) := by decide +kernel
theorem dX11_held_24 : decode cX11_held 24 = .ok (.iaload, 1) := by decide +kernel
theorem dX11_held_25 : decode cX11_held 25 = .ok (.goto 4, 3) := by decide +kernel
theorem dX11_held_28 : decode cX11_held 28 = .ok (.iconst (-1), 1) := by decide +kernel
theorem dX11_held_29 : decode cX11_held 29 = .ok (.ireturn, 1) := by decide +kernel
theorem dX11_areWalks_0 : decode cX11_areWalks 0 = .ok (.iload_n 0, 1) := by decide +kernel
theorem dX11_areWalks_1 : decode cX11_areWalks 1 = .ok (.iconst 1, 1) := by decide +kernel
theorem dX11_areWalks_2 : decode cX11_areWalks 2 = .ok (.bipush 12, 2) := by decide +kernel
theorem dX11_areWalks_4 : decode cX11_areWalks 4 = .ok (.invokestatic 194, 3) := by decide +kernel
theorem dX11_areWalks_7 : decode cX11_areWalks 7 = .ok (.ifCond .eq 17, 3) := by decide +kernel
theorem dX11_areWalks_10 : decode cX11_areWalks 10 = .ok (.iload_n 1, 1) := by decide +kernel
theorem dX11_areWalks_11 : decode cX11_areWalks 11 = .ok (.iconst 1, 1) := by decide +kernel
theorem dX11_areWalks_12 : decode cX11_areWalks 12 = .ok (.bipush 9, 2) := by decide +kernel
theorem dX11_areWalks_14 : decode cX11_areWalks 14 = .ok (.invokestatic 194, 3) := by decide +kernel
theorem dX11_areWalks_17 : decode cX11_areWalks 17 = .ok (.ifCond .eq 7, 3) := by decide +kernel
theorem dX11_areWalks_20 : decode cX11_areWalks 20 = .ok (.iconst 1, 1) := by decide +kernel
theorem dX11_areWalks_21 : decode cX11_areWalks 21 = .ok (.goto 4, 3) := by decide +kernel
theorem dX11_areWalks_24 : decode cX11_areWalks 24 = .ok (.iconst 0, 1) := by decide +kernel
theorem dX11_areWalks_25 : decode cX11_areWalks 25 = .ok (.ireturn, 1) := by decide +kernel
theorem dX11_rounds_0 : decode cX11_rounds 0 = .ok (.iconst 1, 1) := by decide +kernel
theorem dX11_rounds_1 : decode cX11_rounds 1 = .ok (.istore_n 2, 1) := by decide +kernel
theorem dX11_rounds_2 : decode cX11_rounds 2 = .ok (.iload_n 2, 1) := by decide +kernel
theorem dX11_rounds_3 : decode cX11_rounds 3 = .ok (.iload_n 0, 1) := by decide +kernel
theorem dX11_rounds_4 : decode cX11_rounds 4 = .ok (.imul, 1) := by decide +kernel
theorem dX11_rounds_5 : decode cX11_rounds 5 = .ok (.iload_n 1, 1) := by decide +kernel
theorem dX11_rounds_6 : decode cX11_rounds 6 = .ok (.irem, 1) := by decide +kernel
theorem dX11_rounds_7 : decode cX11_rounds 7 = .ok (.ifCond .eq 9, 3) := by decide +kernel
theorem dX11_rounds_10 : decode cX11_rounds 10 = .ok (.iinc 2 1, 3) := by decide +kernel
theorem dX11_rounds_13 : decode cX11_rounds 13 = .ok (.goto (-11), 3) := by decide +kernel
theorem dX11_rounds_16 : decode cX11_rounds 16 = .ok (.iload_n 2, 1) := by decide +kernel
theorem dX11_rounds_17 : decode cX11_rounds 17 = .ok (.ireturn, 1) := by decide +kernel
theorem dX11_walk_0 : decode cX11_walk 0 = .ok (.aload_n 0, 1) := by decide +kernel
theorem dX11_walk_1 : decode cX11_walk 1 = .ok (.iconst 0, 1) := by decide +kernel
theorem dX11_walk_2 : decode cX11_walk 2 = .ok (.putfield 1, 3) := by decide +kernel
theorem dX11_walk_5 : decode cX11_walk 5 = .ok (.iload_n 1, 1) := by decide +kernel
theorem dX11_walk_6 : decode cX11_walk 6 = .ok (.iload_n 2, 1) := by decide +kernel
theorem dX11_walk_7 : decode cX11_walk 7 = .ok (.invokestatic 351, 3) := by decide +kernel
theorem dX11_walk_10 : decode cX11_walk 10 = .ok (.ifCond .eq 11, 3) := by decide +kernel
theorem dX11_walk_13 : decode cX11_walk 13 = .ok (.iload_n 1, 1) := by decide +kernel
theorem dX11_walk_14 : decode cX11_walk 14 = .ok (.iload_n 2, 1) := by decide +kernel
theorem dX11_walk_15 : decode cX11_walk 15 = .ok (.invokestatic 354, 3) := by decide +kernel
theorem dX11_walk_18 : decode cX11_walk 18 = .ok (.goto 4, 3) := by decide +kernel
theorem dX11_walk_21 : decode cX11_walk 21 = .ok (.iconst (-1), 1) := by decide +kernel
theorem dX11_walk_22 : decode cX11_walk 22 = .ok (.ireturn, 1) := by decide +kernel
theorem dX11_alike_0 : decode cX11_alike 0 = .ok (.aload_n 0, 1) := by decide +kernel
theorem dX11_alike_1 : decode cX11_alike 1 = .ok (.iconst 0, 1) := by decide +kernel
theorem dX11_alike_2 : decode cX11_alike 2 = .ok (.putfield 1, 3) := by decide +kernel
theorem dX11_alike_5 : decode cX11_alike 5 = .ok (.iload_n 1, 1) := by decide +kernel
theorem dX11_alike_6 : decode cX11_alike 6 = .ok (.iload_n 2, 1) := by decide +kernel
theorem dX11_alike_7 : decode cX11_alike 7 = .ok (.invokestatic 351, 3) := by decide +kernel
theorem dX11_alike_10 : decode cX11_alike 10 = .ok (.ifCond .eq 41, 3) := by decide +kernel
theorem dX11_alike_13 : decode cX11_alike 13 = .ok (.iload_n 3, 1) := by decide +kernel
theorem dX11_alike_14 : decode cX11_alike 14 = .ok (.iconst 0, 1) := by decide +kernel
theorem dX11_alike_15 : decode cX11_alike 15 = .ok (.iload_n 1, 1) := by decide +kernel
theorem dX11_alike_16 : decode cX11_alike 16 = .ok (.iload_n 2, 1) := by decide +kernel
theorem dX11_alike_17 : decode cX11_alike 17 = .ok (.invokestatic 354, 3) := by decide +kernel
theorem dX11_alike_20 : decode cX11_alike 20 = .ok (.iconst 1, 1) := by decide +kernel
theorem dX11_alike_21 : decode cX11_alike 21 = .ok (.isub, 1) := by decide +kernel
theorem dX11_alike_22 : decode cX11_alike 22 = .ok (.invokestatic 194, 3) := by decide +kernel
theorem dX11_alike_25 : decode cX11_alike 25 = .ok (.ifCond .eq 26, 3) := by decide +kernel
theorem dX11_alike_28 : decode cX11_alike 28 = .ok (.iload 4, 2) := by decide +kernel
theorem dX11_alike_30 : decode cX11_alike 30 = .ok (.iconst 0, 1) := by decide +kernel
theorem dX11_alike_31 : decode cX11_alike 31 = .ok (.iload_n 1, 1) := by decide +kernel
theorem dX11_alike_32 : decode cX11_alike 32 = .ok (.iconst 1, 1) := by decide +kernel
theorem dX11_alike_33 : decode cX11_alike 33 = .ok (.isub, 1) := by decide +kernel
theorem dX11_alike_34 : decode cX11_alike 34 = .ok (.invokestatic 194, 3) := by decide +kernel
theorem dX11_alike_37 : decode cX11_alike 37 = .ok (.ifCond .eq 14, 3) := by decide +kernel
theorem dX11_alike_40 : decode cX11_alike 40 = .ok (.iload_n 3, 1) := by decide +kernel
theorem dX11_alike_41 : decode cX11_alike 41 = .ok (.iload_n 1, 1) := by decide +kernel
theorem dX11_alike_42 : decode cX11_alike 42 = .ok (.imul, 1) := by decide +kernel
theorem dX11_alike_43 : decode cX11_alike 43 = .ok (.iload 4, 2) := by decide +kernel
theorem dX11_alike_45 : decode cX11_alike 45 = .ok (.iadd, 1) := by decide +kernel
theorem dX11_alike_46 : decode cX11_alike 46 = .ok (.iload_n 2, 1) := by decide +kernel
theorem dX11_alike_47 : decode cX11_alike 47 = .ok (.irem, 1) := by decide +kernel
theorem dX11_alike_48 : decode cX11_alike 48 = .ok (.goto 4, 3) := by decide +kernel
theorem dX11_alike_51 : decode cX11_alike 51 = .ok (.iconst (-1), 1) := by decide +kernel
theorem dX11_alike_52 : decode cX11_alike 52 = .ok (.ireturn, 1) := by decide +kernel
theorem dX11_longest_0 : decode cX11_longest 0 = .ok (.iconst 0, 1) := by decide +kernel
theorem dX11_longest_1 : decode cX11_longest 1 = .ok (.istore_n 2, 1) := by decide +kernel
theorem dX11_longest_2 : decode cX11_longest 2 = .ok (.iconst 0, 1) := by decide +kernel
theorem dX11_longest_3 : decode cX11_longest 3 = .ok (.istore_n 3, 1) := by decide +kernel
theorem dX11_longest_4 : decode cX11_longest 4 = .ok (.iload_n 3, 1) := by decide +kernel
theorem dX11_longest_5 : decode cX11_longest 5 = .ok (.aload_n 0, 1) := by decide +kernel
theorem dX11_longest_6 : decode cX11_longest 6 = .ok (.getfield 33, 3) := by decide +kernel
theorem dX11_longest_9 : decode cX11_longest 9 = .ok (.iconst 2, 1) := by decide +kernel
theorem dX11_longest_10 : decode cX11_longest 10 = .ok (.iaload, 1) := by decide +kernel
theorem dX11_longest_11 : decode cX11_longest 11 = .ok (.if_icmp .ge 81, 3) := by decide +kernel
theorem dX11_longest_14 : decode cX11_longest 14 = .ok (.aload_n 0, 1) := by decide +kernel
theorem dX11_longest_15 : decode cX11_longest 15 = .ok (.getfield 80, 3) := by decide +kernel
theorem dX11_longest_18 : decode cX11_longest 18 = .ok (.iload_n 3, 1) := by decide +kernel
theorem dX11_longest_19 : decode cX11_longest 19 = .ok (.iaload, 1) := by decide +kernel
theorem dX11_longest_20 : decode cX11_longest 20 = .ok (.ifCond .ne 6, 3) := by decide +kernel
theorem dX11_longest_23 : decode cX11_longest 23 = .ok (.goto 63, 3) := by decide +kernel
theorem dX11_longest_26 : decode cX11_longest 26 = .ok (.iconst 0, 1) := by decide +kernel
theorem dX11_longest_27 : decode cX11_longest 27 = .ok (.istore 4, 2) := by decide +kernel
theorem dX11_longest_29 : decode cX11_longest 29 = .ok (.iconst 0, 1) := by decide +kernel
theorem dX11_longest_30 : decode cX11_longest 30 = .ok (.istore 5, 2) := by decide +kernel
theorem dX11_longest_32 : decode cX11_longest 32 = .ok (.iload 5, 2) := by decide +kernel
theorem dX11_longest_34 : decode cX11_longest 34 = .ok (.iload_n 1, 1) := by decide +kernel
theorem dX11_longest_35 : decode cX11_longest 35 = .ok (.if_icmp .ge 51, 3) := by decide +kernel
theorem dX11_longest_38 : decode cX11_longest 38 = .ok (.aload_n 0, 1) := by decide +kernel
theorem dX11_longest_39 : decode cX11_longest 39 = .ok (.getfield 80, 3) := by decide +kernel
theorem dX11_longest_42 : decode cX11_longest 42 = .ok (.iload_n 3, 1) := by decide +kernel
theorem dX11_longest_43 : decode cX11_longest 43 = .ok (.iaload, 1) := by decide +kernel
theorem dX11_longest_44 : decode cX11_longest 44 = .ok (.aload_n 0, 1) := by decide +kernel
theorem dX11_longest_45 : decode cX11_longest 45 = .ok (.getfield 74, 3) := by decide +kernel
theorem dX11_longest_48 : decode cX11_longest 48 = .ok (.iload 5, 2) := by decide +kernel
theorem dX11_longest_50 : decode cX11_longest 50 = .ok (.iaload, 1) := by decide +kernel
theorem dX11_longest_51 : decode cX11_longest 51 = .ok (.invokestatic 336, 3) := by decide +kernel
theorem dX11_longest_54 : decode cX11_longest 54 = .ok (.ifCond .eq 7, 3) := by decide +kernel
theorem dX11_longest_57 : decode cX11_longest 57 = .ok (.iconst 0, 1) := by decide +kernel
theorem dX11_longest_58 : decode cX11_longest 58 = .ok (.goto 7, 3) := by decide +kernel
theorem dX11_longest_61 : decode cX11_longest 61 = .ok (.iload 4, 2) := by decide +kernel
theorem dX11_longest_63 : decode cX11_longest 63 = .ok (.iconst 1, 1) := by decide +kernel
theorem dX11_longest_64 : decode cX11_longest 64 = .ok (.iadd, 1) := by decide +kernel
theorem dX11_longest_65 : decode cX11_longest 65 = .ok (.istore 4, 2) := by decide +kernel
theorem dX11_longest_67 : decode cX11_longest 67 = .ok (.iload 4, 2) := by decide +kernel
theorem dX11_longest_69 : decode cX11_longest 69 = .ok (.iload_n 2, 1) := by decide +kernel
theorem dX11_longest_70 : decode cX11_longest 70 = .ok (.if_icmp .le 8, 3) := by decide +kernel
theorem dX11_longest_73 : decode cX11_longest 73 = .ok (.iload 4, 2) := by decide +kernel
theorem dX11_longest_75 : decode cX11_longest 75 = .ok (.goto 4, 3) := by decide +kernel
theorem dX11_longest_78 : decode cX11_longest 78 = .ok (.iload_n 2, 1) := by decide +kernel
theorem dX11_longest_79 : decode cX11_longest 79 = .ok (.istore_n 2, 1) := by decide +kernel
theorem dX11_longest_80 : decode cX11_longest 80 = .ok (.iinc 5 1, 3) := by decide +kernel
theorem dX11_longest_83 : decode cX11_longest 83 = .ok (.goto (-51), 3) := by decide +kernel
theorem dX11_longest_86 : decode cX11_longest 86 = .ok (.iinc 3 1, 3) := by decide +kernel
theorem dX11_longest_89 : decode cX11_longest 89 = .ok (.goto (-85), 3) := by decide +kernel
theorem dX11_longest_92 : decode cX11_longest 92 = .ok (.iload_n 2, 1) := by decide +kernel
theorem dX11_longest_93 : decode cX11_longest 93 = .ok (.ireturn, 1) := by decide +kernel
theorem dX11_turns_0 : decode cX11_turns 0 = .ok (.iload_n 1, 1) := by decide +kernel
theorem dX11_turns_1 : decode cX11_turns 1 = .ok (.iconst 2, 1) := by decide +kernel
theorem dX11_turns_2 : decode cX11_turns 2 = .ok (.isub, 1) := by decide +kernel
theorem dX11_turns_3 : decode cX11_turns 3 = .ok (.istore_n 2, 1) := by decide +kernel
theorem dX11_turns_4 : decode cX11_turns 4 = .ok (.iload_n 2, 1) := by decide +kernel
theorem dX11_turns_5 : decode cX11_turns 5 = .ok (.ifCond .lt 26, 3) := by decide +kernel
theorem dX11_turns_8 : decode cX11_turns 8 = .ok (.aload_n 0, 1) := by decide +kernel
theorem dX11_turns_9 : decode cX11_turns 9 = .ok (.getfield 74, 3) := by decide +kernel
theorem dX11_turns_12 : decode cX11_turns 12 = .ok (.iload_n 2, 1) := by decide +kernel
theorem dX11_turns_13 : decode cX11_turns 13 = .ok (.iaload, 1) := by decide +kernel
theorem dX11_turns_14 : decode cX11_turns 14 = .ok (.aload_n 0, 1) := by decide +kernel
theorem dX11_turns_15 : decode cX11_turns 15 = .ok (.getfield 74, 3) := by decide +kernel
theorem dX11_turns_18 : decode cX11_turns 18 = .ok (.iload_n 2, 1) := by decide +kernel
theorem dX11_turns_19 : decode cX11_turns 19 = .ok (.iconst 1, 1) := by decide +kernel
theorem dX11_turns_20 : decode cX11_turns 20 = .ok (.iadd, 1) := by decide +kernel
theorem dX11_turns_21 : decode cX11_turns 21 = .ok (.iaload, 1) := by decide +kernel
theorem dX11_turns_22 : decode cX11_turns 22 = .ok (.if_icmp .le 9, 3) := by decide +kernel
theorem dX11_turns_25 : decode cX11_turns 25 = .ok (.iinc 2 (-1), 3) := by decide +kernel
theorem dX11_turns_28 : decode cX11_turns 28 = .ok (.goto (-24), 3) := by decide +kernel
theorem dX11_turns_31 : decode cX11_turns 31 = .ok (.iload_n 2, 1) := by decide +kernel
theorem dX11_turns_32 : decode cX11_turns 32 = .ok (.ifCond .ge 5, 3) := by decide +kernel
theorem dX11_turns_35 : decode cX11_turns 35 = .ok (.iconst 0, 1) := by decide +kernel
theorem dX11_turns_36 : decode cX11_turns 36 = .ok (.ireturn, 1) := by decide +kernel
theorem dX11_turns_37 : decode cX11_turns 37 = .ok (.iload_n 1, 1) := by decide +kernel
theorem dX11_turns_38 : decode cX11_turns 38 = .ok (.iconst 1, 1) := by decide +kernel
theorem dX11_turns_39 : decode cX11_turns 39 = .ok (.isub, 1) := by decide +kernel
theorem dX11_turns_40 : decode cX11_turns 40 = .ok (.istore_n 3, 1) := by decide +kernel
theorem dX11_turns_41 : decode cX11_turns 41 = .ok (.aload_n 0, 1) := by decide +kernel
theorem dX11_turns_42 : decode cX11_turns 42 = .ok (.getfield 74, 3) := by decide +kernel
theorem dX11_turns_45 : decode cX11_turns 45 = .ok (.iload_n 3, 1) := by decide +kernel
theorem dX11_turns_46 : decode cX11_turns 46 = .ok (.iaload, 1) := by decide +kernel
theorem dX11_turns_47 : decode cX11_turns 47 = .ok (.aload_n 0, 1) := by decide +kernel
theorem dX11_turns_48 : decode cX11_turns 48 = .ok (.getfield 74, 3) := by decide +kernel
theorem dX11_turns_51 : decode cX11_turns 51 = .ok (.iload_n 2, 1) := by decide +kernel
theorem dX11_turns_52 : decode cX11_turns 52 = .ok (.iaload, 1) := by decide +kernel
theorem dX11_turns_53 : decode cX11_turns 53 = .ok (.if_icmp .ge 9, 3) := by decide +kernel
theorem dX11_turns_56 : decode cX11_turns 56 = .ok (.iinc 3 (-1), 3) := by decide +kernel
theorem dX11_turns_59 : decode cX11_turns 59 = .ok (.goto (-18), 3) := by decide +kernel
theorem dX11_turns_62 : decode cX11_turns 62 = .ok (.aload_n 0, 1) := by decide +kernel
theorem dX11_turns_63 : decode cX11_turns 63 = .ok (.getfield 74, 3) := by decide +kernel
theorem dX11_turns_66 : decode cX11_turns 66 = .ok (.iload_n 2, 1) := by decide +kernel
theorem dX11_turns_67 : decode cX11_turns 67 = .ok (.iaload, 1) := by decide +kernel
theorem dX11_turns_68 : decode cX11_turns 68 = .ok (.istore 4, 2) := by decide +kernel
theorem dX11_turns_70 : decode cX11_turns 70 = .ok (.aload_n 0, 1) := by decide +kernel
theorem dX11_turns_71 : decode cX11_turns 71 = .ok (.getfield 74, 3) := by decide +kernel
theorem dX11_turns_74 : decode cX11_turns 74 = .ok (.iload_n 2, 1) := by decide +kernel
theorem dX11_turns_75 : decode cX11_turns 75 = .ok (.aload_n 0, 1) := by decide +kernel
theorem dX11_turns_76 : decode cX11_turns 76 = .ok (.getfield 74, 3) := by decide +kernel
theorem dX11_turns_79 : decode cX11_turns 79 = .ok (.iload_n 3, 1) := by decide +kernel
theorem dX11_turns_80 : decode cX11_turns 80 = .ok (.iaload, 1) := by decide +kernel
theorem dX11_turns_81 : decode cX11_turns 81 = .ok (.iastore, 1) := by decide +kernel
theorem dX11_turns_82 : decode cX11_turns 82 = .ok (.aload_n 0, 1) := by decide +kernel
theorem dX11_turns_83 : decode cX11_turns 83 = .ok (.getfield 74, 3) := by decide +kernel
theorem dX11_turns_86 : decode cX11_turns 86 = .ok (.iload_n 3, 1) := by decide +kernel
theorem dX11_turns_87 : decode cX11_turns 87 = .ok (.iload 4, 2) := by decide +kernel
theorem dX11_turns_89 : decode cX11_turns 89 = .ok (.iastore, 1) := by decide +kernel
theorem dX11_turns_90 : decode cX11_turns 90 = .ok (.iload_n 2, 1) := by decide +kernel
theorem dX11_turns_91 : decode cX11_turns 91 = .ok (.iconst 1, 1) := by decide +kernel
theorem dX11_turns_92 : decode cX11_turns 92 = .ok (.iadd, 1) := by decide +kernel
theorem dX11_turns_93 : decode cX11_turns 93 = .ok (.istore 5, 2) := by decide +kernel
theorem dX11_turns_95 : decode cX11_turns 95 = .ok (.iload_n 1, 1) := by decide +kernel
theorem dX11_turns_96 : decode cX11_turns 96 = .ok (.iconst 1, 1) := by decide +kernel
theorem dX11_turns_97 : decode cX11_turns 97 = .ok (.isub, 1) := by decide +kernel
theorem dX11_turns_98 : decode cX11_turns 98 = .ok (.istore 6, 2) := by decide +kernel
theorem dX11_turns_100 : decode cX11_turns 100 = .ok (.iload 5, 2) := by decide +kernel
theorem dX11_turns_102 : decode cX11_turns 102 = .ok (.iload 6, 2) := by decide +kernel
theorem dX11_turns_104 : decode cX11_turns 104 = .ok (.if_icmp .ge 44, 3) := by decide +kernel
theorem dX11_turns_107 : decode cX11_turns 107 = .ok (.aload_n 0, 1) := by decide +kernel
theorem dX11_turns_108 : decode cX11_turns 108 = .ok (.getfield 74, 3) := by decide +kernel
theorem dX11_turns_111 : decode cX11_turns 111 = .ok (.iload 5, 2) := by decide +kernel
theorem dX11_turns_113 : decode cX11_turns 113 = .ok (.iaload, 1) := by decide +kernel
theorem dX11_turns_114 : decode cX11_turns 114 = .ok (.istore 4, 2) := by decide +kernel
theorem dX11_turns_116 : decode cX11_turns 116 = .ok (.aload_n 0, 1) := by decide +kernel
theorem dX11_turns_117 : decode cX11_turns 117 = .ok (.getfield 74, 3) := by decide +kernel
theorem dX11_turns_120 : decode cX11_turns 120 = .ok (.iload 5, 2) := by decide +kernel
theorem dX11_turns_122 : decode cX11_turns 122 = .ok (.aload_n 0, 1) := by decide +kernel
theorem dX11_turns_123 : decode cX11_turns 123 = .ok (.getfield 74, 3) := by decide +kernel
theorem dX11_turns_126 : decode cX11_turns 126 = .ok (.iload 6, 2) := by decide +kernel
theorem dX11_turns_128 : decode cX11_turns 128 = .ok (.iaload, 1) := by decide +kernel
theorem dX11_turns_129 : decode cX11_turns 129 = .ok (.iastore, 1) := by decide +kernel
theorem dX11_turns_130 : decode cX11_turns 130 = .ok (.aload_n 0, 1) := by decide +kernel
theorem dX11_turns_131 : decode cX11_turns 131 = .ok (.getfield 74, 3) := by decide +kernel
theorem dX11_turns_134 : decode cX11_turns 134 = .ok (.iload 6, 2) := by decide +kernel
theorem dX11_turns_136 : decode cX11_turns 136 = .ok (.iload 4, 2) := by decide +kernel
theorem dX11_turns_138 : decode cX11_turns 138 = .ok (.iastore, 1) := by decide +kernel
theorem dX11_turns_139 : decode cX11_turns 139 = .ok (.iinc 5 1, 3) := by decide +kernel
theorem dX11_turns_142 : decode cX11_turns 142 = .ok (.iinc 6 (-1), 3) := by decide +kernel
theorem dX11_turns_145 : decode cX11_turns 145 = .ok (.goto (-45), 3) := by decide +kernel
theorem dX11_turns_148 : decode cX11_turns 148 = .ok (.iconst 1, 1) := by decide +kernel
theorem dX11_turns_149 : decode cX11_turns 149 = .ok (.ireturn, 1) := by decide +kernel
theorem dX11_order_0 : decode cX11_order 0 = .ok (.aload_n 0, 1) := by decide +kernel
theorem dX11_order_1 : decode cX11_order 1 = .ok (.iconst 0, 1) := by decide +kernel
theorem dX11_order_2 : decode cX11_order 2 = .ok (.putfield 1, 3) := by decide +kernel
theorem dX11_order_5 : decode cX11_order 5 = .ok (.aload_n 0, 1) := by decide +kernel
theorem dX11_order_6 : decode cX11_order 6 = .ok (.getfield 33, 3) := by decide +kernel
theorem dX11_order_9 : decode cX11_order 9 = .ok (.iconst 3, 1) := by decide +kernel
theorem dX11_order_10 : decode cX11_order 10 = .ok (.iaload, 1) := by decide +kernel
theorem dX11_order_11 : decode cX11_order 11 = .ok (.istore_n 1, 1) := by decide +kernel
theorem dX11_order_12 : decode cX11_order 12 = .ok (.iload_n 1, 1) := by decide +kernel
theorem dX11_order_13 : decode cX11_order 13 = .ok (.iconst 1, 1) := by decide +kernel
theorem dX11_order_14 : decode cX11_order 14 = .ok (.bipush 8, 2) := by decide +kernel
theorem dX11_order_16 : decode cX11_order 16 = .ok (.invokestatic 194, 3) := by decide +kernel
theorem dX11_order_19 : decode cX11_order 19 = .ok (.ifCond .ne 5, 3) := by decide +kernel
theorem dX11_order_22 : decode cX11_order 22 = .ok (.iconst (-1), 1) := by decide +kernel
theorem dX11_order_23 : decode cX11_order 23 = .ok (.ireturn, 1) := by decide +kernel
theorem dX11_order_24 : decode cX11_order 24 = .ok (.iconst 0, 1) := by decide +kernel
theorem dX11_order_25 : decode cX11_order 25 = .ok (.istore_n 2, 1) := by decide +kernel
theorem dX11_order_26 : decode cX11_order 26 = .ok (.iload_n 2, 1) := by decide +kernel
theorem dX11_order_27 : decode cX11_order 27 = .ok (.bipush 9, 2) := by decide +kernel
theorem dX11_order_29 : decode cX11_order 29 = .ok (.if_icmp .ge 80, 3) := by decide +kernel
theorem dX11_order_32 : decode cX11_order 32 = .ok (.aload_n 0, 1) := by decide +kernel
theorem dX11_order_33 : decode cX11_order 33 = .ok (.getfield 80, 3) := by decide +kernel
theorem dX11_order_36 : decode cX11_order 36 = .ok (.iload_n 2, 1) := by decide +kernel
theorem dX11_order_37 : decode cX11_order 37 = .ok (.iconst 0, 1) := by decide +kernel
theorem dX11_order_38 : decode cX11_order 38 = .ok (.iastore, 1) := by decide +kernel
theorem dX11_order_39 : decode cX11_order 39 = .ok (.iconst 0, 1) := by decide +kernel
theorem dX11_order_40 : decode cX11_order 40 = .ok (.istore_n 3, 1) := by decide +kernel
theorem dX11_order_41 : decode cX11_order 41 = .ok (.iload_n 3, 1) := by decide +kernel
theorem dX11_order_42 : decode cX11_order 42 = .ok (.iload_n 1, 1) := by decide +kernel
theorem dX11_order_43 : decode cX11_order 43 = .ok (.if_icmp .ge 60, 3) := by decide +kernel
theorem dX11_order_46 : decode cX11_order 46 = .ok (.iload_n 2, 1) := by decide +kernel
theorem dX11_order_47 : decode cX11_order 47 = .ok (.aload_n 0, 1) := by decide +kernel
theorem dX11_order_48 : decode cX11_order 48 = .ok (.getfield 33, 3) := by decide +kernel
theorem dX11_order_51 : decode cX11_order 51 = .ok (.iconst 2, 1) := by decide +kernel
theorem dX11_order_52 : decode cX11_order 52 = .ok (.iaload, 1) := by decide +kernel
theorem dX11_order_53 : decode cX11_order 53 = .ok (.if_icmp .ge 50, 3) := by decide +kernel
theorem dX11_order_56 : decode cX11_order 56 = .ok (.aload_n 0, 1) := by decide +kernel
theorem dX11_order_57 : decode cX11_order 57 = .ok (.getfield 80, 3) := by decide +kernel
theorem dX11_order_60 : decode cX11_order 60 = .ok (.iload_n 2, 1) := by decide +kernel
theorem dX11_order_61 : decode cX11_order 61 = .ok (.dup2, 1) := by decide +kernel
theorem dX11_order_62 : decode cX11_order 62 = .ok (.iaload, 1) := by decide +kernel
theorem dX11_order_63 : decode cX11_order 63 = .ok (.aload_n 0, 1) := by decide +kernel
theorem dX11_order_64 : decode cX11_order 64 = .ok (.getfield 33, 3) := by decide +kernel
theorem dX11_order_67 : decode cX11_order 67 = .ok (.bipush 11, 2) := by decide +kernel
theorem dX11_order_69 : decode cX11_order 69 = .ok (.iload_n 2, 1) := by decide +kernel
theorem dX11_order_70 : decode cX11_order 70 = .ok (.iadd, 1) := by decide +kernel
theorem dX11_order_71 : decode cX11_order 71 = .ok (.iaload, 1) := by decide +kernel
theorem dX11_order_72 : decode cX11_order 72 = .ok (.aload_n 0, 1) := by decide +kernel
theorem dX11_order_73 : decode cX11_order 73 = .ok (.getfield 33, 3) := by decide +kernel
theorem dX11_order_76 : decode cX11_order 76 = .ok (.bipush 67, 2) := by decide +kernel
theorem dX11_order_78 : decode cX11_order 78 = .ok (.iload_n 3, 1) := by decide +kernel
theorem dX11_order_79 : decode cX11_order 79 = .ok (.iadd, 1) := by decide +kernel
theorem dX11_order_80 : decode cX11_order 80 = .ok (.iaload, 1) := by decide +kernel
theorem dX11_order_81 : decode cX11_order 81 = .ok (.invokestatic 278, 3) := by decide +kernel
theorem dX11_order_84 : decode cX11_order 84 = .ok (.iconst 3, 1) := by decide +kernel
theorem dX11_order_85 : decode cX11_order 85 = .ok (.if_icmp .gt 9, 3) := by decide +kernel
theorem dX11_order_88 : decode cX11_order 88 = .ok (.iconst 1, 1) := by decide +kernel
theorem dX11_order_89 : decode cX11_order 89 = .ok (.iload_n 3, 1) := by decide +kernel
theorem dX11_order_90 : decode cX11_order 90 = .ok (.ishl, 1) := by decide +kernel
theorem dX11_order_91 : decode cX11_order 91 = .ok (.goto 4, 3) := by decide +kernel
theorem dX11_order_94 : decode cX11_order 94 = .ok (.iconst 0, 1) := by decide +kernel
theorem dX11_order_95 : decode cX11_order 95 = .ok (.ior, 1) := by decide +kernel
theorem dX11_order_96 : decode cX11_order 96 = .ok (.iastore, 1) := by decide +kernel
theorem dX11_order_97 : decode cX11_order 97 = .ok (.iinc 3 1, 3) := by decide +kernel
theorem dX11_order_100 : decode cX11_order 100 = .ok (.goto (-59), 3) := by decide +kernel
theorem dX11_order_103 : decode cX11_order 103 = .ok (.iinc 2 1, 3) := by decide +kernel
theorem dX11_order_106 : decode cX11_order 106 = .ok (.goto (-80), 3) := by decide +kernel
theorem dX11_order_109 : decode cX11_order 109 = .ok (.iconst 0, 1) := by decide +kernel
theorem dX11_order_110 : decode cX11_order 110 = .ok (.istore_n 2, 1) := by decide +kernel
theorem dX11_order_111 : decode cX11_order 111 = .ok (.iload_n 2, 1) := by decide +kernel
theorem dX11_order_112 : decode cX11_order 112 = .ok (.iload_n 1, 1) := by decide +kernel
theorem dX11_order_113 : decode cX11_order 113 = .ok (.if_icmp .ge 16, 3) := by decide +kernel
theorem dX11_order_116 : decode cX11_order 116 = .ok (.aload_n 0, 1) := by decide +kernel
theorem dX11_order_117 : decode cX11_order 117 = .ok (.getfield 74, 3) := by decide +kernel
theorem dX11_order_120 : decode cX11_order 120 = .ok (.iload_n 2, 1) := by decide +kernel
theorem dX11_order_121 : decode cX11_order 121 = .ok (.iload_n 2, 1) := by decide +kernel
theorem dX11_order_122 : decode cX11_order 122 = .ok (.iastore, 1) := by decide +kernel
theorem dX11_order_123 : decode cX11_order 123 = .ok (.iinc 2 1, 3) := by decide +kernel
theorem dX11_order_126 : decode cX11_order 126 = .ok (.goto (-15), 3) := by decide +kernel
theorem dX11_order_129 : decode cX11_order 129 = .ok (.ldc_w 357, 3) := by decide +kernel
theorem dX11_order_132 : decode cX11_order 132 = .ok (.istore_n 2, 1) := by decide +kernel
theorem dX11_order_133 : decode cX11_order 133 = .ok (.iconst 1, 1) := by decide +kernel
theorem dX11_order_134 : decode cX11_order 134 = .ok (.istore_n 3, 1) := by decide +kernel
theorem dX11_order_135 : decode cX11_order 135 = .ok (.iload_n 3, 1) := by decide +kernel
theorem dX11_order_136 : decode cX11_order 136 = .ok (.ifCond .eq 57, 3) := by decide +kernel
theorem dX11_order_139 : decode cX11_order 139 = .ok (.aload_n 0, 1) := by decide +kernel
theorem dX11_order_140 : decode cX11_order 140 = .ok (.iload_n 1, 1) := by decide +kernel
theorem dX11_order_141 : decode cX11_order 141 = .ok (.invokevirtual 358, 3) := by decide +kernel
theorem dX11_order_144 : decode cX11_order 144 = .ok (.istore 4, 2) := by decide +kernel
theorem dX11_order_146 : decode cX11_order 146 = .ok (.iload 4, 2) := by decide +kernel
theorem dX11_order_148 : decode cX11_order 148 = .ok (.iload_n 2, 1) := by decide +kernel
theorem dX11_order_149 : decode cX11_order 149 = .ok (.if_icmp .ge 35, 3) := by decide +kernel
theorem dX11_order_152 : decode cX11_order 152 = .ok (.iload 4, 2) := by decide +kernel
theorem dX11_order_154 : decode cX11_order 154 = .ok (.istore_n 2, 1) := by decide +kernel
theorem dX11_order_155 : decode cX11_order 155 = .ok (.iconst 0, 1) := by decide +kernel
theorem dX11_order_156 : decode cX11_order 156 = .ok (.istore 5, 2) := by decide +kernel
theorem dX11_order_158 : decode cX11_order 158 = .ok (.iload 5, 2) := by decide +kernel
theorem dX11_order_160 : decode cX11_order 160 = .ok (.iload_n 1, 1) := by decide +kernel
theorem dX11_order_161 : decode cX11_order 161 = .ok (.if_icmp .ge 23, 3) := by decide +kernel
theorem dX11_order_164 : decode cX11_order 164 = .ok (.aload_n 0, 1) := by decide +kernel
theorem dX11_order_165 : decode cX11_order 165 = .ok (.getfield 77, 3) := by decide +kernel
theorem dX11_order_168 : decode cX11_order 168 = .ok (.iload 5, 2) := by decide +kernel
theorem dX11_order_170 : decode cX11_order 170 = .ok (.aload_n 0, 1) := by decide +kernel
theorem dX11_order_171 : decode cX11_order 171 = .ok (.getfield 74, 3) := by decide +kernel
theorem dX11_order_174 : decode cX11_order 174 = .ok (.iload 5, 2) := by decide +kernel
theorem dX11_order_176 : decode cX11_order 176 = .ok (.iaload, 1) := by decide +kernel
theorem dX11_order_177 : decode cX11_order 177 = .ok (.iastore, 1) := by decide +kernel
theorem dX11_order_178 : decode cX11_order 178 = .ok (.iinc 5 1, 3) := by decide +kernel
theorem dX11_order_181 : decode cX11_order 181 = .ok (.goto (-23), 3) := by decide +kernel
theorem dX11_order_184 : decode cX11_order 184 = .ok (.aload_n 0, 1) := by decide +kernel
theorem dX11_order_185 : decode cX11_order 185 = .ok (.iload_n 1, 1) := by decide +kernel
theorem dX11_order_186 : decode cX11_order 186 = .ok (.invokevirtual 361, 3) := by decide +kernel
theorem dX11_order_189 : decode cX11_order 189 = .ok (.istore_n 3, 1) := by decide +kernel
theorem dX11_order_190 : decode cX11_order 190 = .ok (.goto (-55), 3) := by decide +kernel
theorem dX11_order_193 : decode cX11_order 193 = .ok (.aload_n 0, 1) := by decide +kernel
theorem dX11_order_194 : decode cX11_order 194 = .ok (.iload_n 1, 1) := by decide +kernel
theorem dX11_order_195 : decode cX11_order 195 = .ok (.putfield 364, 3) := by decide +kernel
theorem dX11_order_198 : decode cX11_order 198 = .ok (.iload_n 2, 1) := by decide +kernel
theorem dX11_order_199 : decode cX11_order 199 = .ok (.ireturn, 1) := by decide +kernel
theorem dX11_comes_0 : decode cX11_comes 0 = .ok (.aload_n 0, 1) := by decide +kernel
theorem dX11_comes_1 : decode cX11_comes 1 = .ok (.iconst 0, 1) := by decide +kernel
theorem dX11_comes_2 : decode cX11_comes 2 = .ok (.putfield 1, 3) := by decide +kernel
theorem dX11_comes_5 : decode cX11_comes 5 = .ok (.iload_n 1, 1) := by decide +kernel
theorem dX11_comes_6 : decode cX11_comes 6 = .ok (.iconst 0, 1) := by decide +kernel
theorem dX11_comes_7 : decode cX11_comes 7 = .ok (.aload_n 0, 1) := by decide +kernel
theorem dX11_comes_8 : decode cX11_comes 8 = .ok (.getfield 364, 3) := by decide +kernel
theorem dX11_comes_11 : decode cX11_comes 11 = .ok (.iconst 1, 1) := by decide +kernel
theorem dX11_comes_12 : decode cX11_comes 12 = .ok (.isub, 1) := by decide +kernel
theorem dX11_comes_13 : decode cX11_comes 13 = .ok (.invokestatic 194, 3) := by decide +kernel
theorem dX11_comes_16 : decode cX11_comes 16 = .ok (.ifCond .eq 12, 3) := by decide +kernel
theorem dX11_comes_19 : decode cX11_comes 19 = .ok (.aload_n 0, 1) := by decide +kernel
theorem dX11_comes_20 : decode cX11_comes 20 = .ok (.getfield 77, 3) := by decide +kernel
theorem dX11_comes_23 : decode cX11_comes 23 = .ok (.iload_n 1, 1) := by decide +kernel
theorem dX11_comes_24 : decode cX11_comes 24 = .ok (.iaload, 1) := by decide +kernel
theorem dX11_comes_25 : decode cX11_comes 25 = .ok (.goto 4, 3) := by decide +kernel
theorem dX11_comes_28 : decode cX11_comes 28 = .ok (.iconst (-1), 1) := by decide +kernel
theorem dX11_comes_29 : decode cX11_comes 29 = .ok (.ireturn, 1) := by decide +kernel
theorem dX11_dries_0 : decode cX11_dries 0 = .ok (.iconst 0, 1) := by decide +kernel
theorem dX11_dries_1 : decode cX11_dries 1 = .ok (.istore_n 2, 1) := by decide +kernel
theorem dX11_dries_2 : decode cX11_dries 2 = .ok (.iconst 0, 1) := by decide +kernel
theorem dX11_dries_3 : decode cX11_dries 3 = .ok (.istore_n 3, 1) := by decide +kernel
theorem dX11_dries_4 : decode cX11_dries 4 = .ok (.iload_n 3, 1) := by decide +kernel
theorem dX11_dries_5 : decode cX11_dries 5 = .ok (.aload_n 0, 1) := by decide +kernel
theorem dX11_dries_6 : decode cX11_dries 6 = .ok (.getfield 33, 3) := by decide +kernel
theorem dX11_dries_9 : decode cX11_dries 9 = .ok (.iconst 2, 1) := by decide +kernel
theorem dX11_dries_10 : decode cX11_dries 10 = .ok (.iaload, 1) := by decide +kernel
theorem dX11_dries_11 : decode cX11_dries 11 = .ok (.if_icmp .ge 36, 3) := by decide +kernel
theorem dX11_dries_14 : decode cX11_dries 14 = .ok (.iload_n 2, 1) := by decide +kernel
theorem dX11_dries_15 : decode cX11_dries 15 = .ok (.aload_n 0, 1) := by decide +kernel
theorem dX11_dries_16 : decode cX11_dries 16 = .ok (.getfield 33, 3) := by decide +kernel
theorem dX11_dries_19 : decode cX11_dries 19 = .ok (.bipush 11, 2) := by decide +kernel
theorem dX11_dries_21 : decode cX11_dries 21 = .ok (.iload_n 3, 1) := by decide +kernel
theorem dX11_dries_22 : decode cX11_dries 22 = .ok (.iadd, 1) := by decide +kernel
theorem dX11_dries_23 : decode cX11_dries 23 = .ok (.iaload, 1) := by decide +kernel
theorem dX11_dries_24 : decode cX11_dries 24 = .ok (.iload_n 1, 1) := by decide +kernel
theorem dX11_dries_25 : decode cX11_dries 25 = .ok (.invokestatic 278, 3) := by decide +kernel
theorem dX11_dries_28 : decode cX11_dries 28 = .ok (.iconst 1, 1) := by decide +kernel
theorem dX11_dries_29 : decode cX11_dries 29 = .ok (.if_icmp .gt 9, 3) := by decide +kernel
theorem dX11_dries_32 : decode cX11_dries 32 = .ok (.iconst 1, 1) := by decide +kernel
theorem dX11_dries_33 : decode cX11_dries 33 = .ok (.iload_n 3, 1) := by decide +kernel
theorem dX11_dries_34 : decode cX11_dries 34 = .ok (.ishl, 1) := by decide +kernel
theorem dX11_dries_35 : decode cX11_dries 35 = .ok (.goto 4, 3) := by decide +kernel
theorem dX11_dries_38 : decode cX11_dries 38 = .ok (.iconst 0, 1) := by decide +kernel
theorem dX11_dries_39 : decode cX11_dries 39 = .ok (.ior, 1) := by decide +kernel
theorem dX11_dries_40 : decode cX11_dries 40 = .ok (.istore_n 2, 1) := by decide +kernel
theorem dX11_dries_41 : decode cX11_dries 41 = .ok (.iinc 3 1, 3) := by decide +kernel
theorem dX11_dries_44 : decode cX11_dries 44 = .ok (.goto (-40), 3) := by decide +kernel
theorem dX11_dries_47 : decode cX11_dries 47 = .ok (.iload_n 2, 1) := by decide +kernel
theorem dX11_dries_48 : decode cX11_dries 48 = .ok (.ireturn, 1) := by decide +kernel
theorem dX11_slippery_0 : decode cX11_slippery 0 = .ok (.aload_n 0, 1) := by decide +kernel
theorem dX11_slippery_1 : decode cX11_slippery 1 = .ok (.iconst 0, 1) := by decide +kernel
theorem dX11_slippery_2 : decode cX11_slippery 2 = .ok (.putfield 1, 3) := by decide +kernel
theorem dX11_slippery_5 : decode cX11_slippery 5 = .ok (.iconst 0, 1) := by decide +kernel
theorem dX11_slippery_6 : decode cX11_slippery 6 = .ok (.istore_n 1, 1) := by decide +kernel
theorem dX11_slippery_7 : decode cX11_slippery 7 = .ok (.iconst 0, 1) := by decide +kernel
theorem dX11_slippery_8 : decode cX11_slippery 8 = .ok (.istore_n 2, 1) := by decide +kernel
theorem dX11_slippery_9 : decode cX11_slippery 9 = .ok (.iload_n 2, 1) := by decide +kernel
theorem dX11_slippery_10 : decode cX11_slippery 10 = .ok (.aload_n 0, 1) := by decide +kernel
theorem dX11_slippery_11 : decode cX11_slippery 11 = .ok (.getfield 33, 3) := by decide +kernel
theorem dX11_slippery_14 : decode cX11_slippery 14 = .ok (.iconst 2, 1) := by decide +kernel
theorem dX11_slippery_15 : decode cX11_slippery 15 = .ok (.iaload, 1) := by decide +kernel
theorem dX11_slippery_16 : decode cX11_slippery 16 = .ok (.if_icmp .ge 42, 3) := by decide +kernel
theorem dX11_slippery_19 : decode cX11_slippery 19 = .ok (.iload_n 1, 1) := by decide +kernel
theorem dX11_slippery_20 : decode cX11_slippery 20 = .ok (.aload_n 0, 1) := by decide +kernel
theorem dX11_slippery_21 : decode cX11_slippery 21 = .ok (.getfield 33, 3) := by decide +kernel
theorem dX11_slippery_24 : decode cX11_slippery 24 = .ok (.sipush 714, 3) := by decide +kernel
theorem dX11_slippery_27 : decode cX11_slippery 27 = .ok (.aload_n 0, 1) := by decide +kernel
theorem dX11_slippery_28 : decode cX11_slippery 28 = .ok (.getfield 33, 3) := by decide +kernel
theorem dX11_slippery_31 : decode cX11_slippery 31 = .ok (.bipush 11, 2) := by decide +kernel
theorem dX11_slippery_33 : decode cX11_slippery 33 = .ok (.iload_n 2, 1) := by decide +kernel
theorem dX11_slippery_34 : decode cX11_slippery 34 = .ok (.iadd, 1) := by decide +kernel
theorem dX11_slippery_35 : decode cX11_slippery 35 = .ok (.iaload, 1) := by decide +kernel
theorem dX11_slippery_36 : decode cX11_slippery 36 = .ok (.iadd, 1) := by decide +kernel
theorem dX11_slippery_37 : decode cX11_slippery 37 = .ok (.iaload, 1) := by decide +kernel
theorem dX11_slippery_38 : decode cX11_slippery 38 = .ok (.bipush 10, 2) := by decide +kernel
theorem dX11_slippery_40 : decode cX11_slippery 40 = .ok (.if_icmp .lt 9, 3) := by decide +kernel
theorem dX11_slippery_43 : decode cX11_slippery 43 = .ok (.iconst 1, 1) := by decide +kernel
theorem dX11_slippery_44 : decode cX11_slippery 44 = .ok (.iload_n 2, 1) := by decide +kernel
theorem dX11_slippery_45 : decode cX11_slippery 45 = .ok (.ishl, 1) := by decide +kernel
theorem dX11_slippery_46 : decode cX11_slippery 46 = .ok (.goto 4, 3) := by decide +kernel
theorem dX11_slippery_49 : decode cX11_slippery 49 = .ok (.iconst 0, 1) := by decide +kernel
theorem dX11_slippery_50 : decode cX11_slippery 50 = .ok (.ior, 1) := by decide +kernel
theorem dX11_slippery_51 : decode cX11_slippery 51 = .ok (.istore_n 1, 1) := by decide +kernel
theorem dX11_slippery_52 : decode cX11_slippery 52 = .ok (.iinc 2 1, 3) := by decide +kernel
theorem dX11_slippery_55 : decode cX11_slippery 55 = .ok (.goto (-46), 3) := by decide +kernel
theorem dX11_slippery_58 : decode cX11_slippery 58 = .ok (.iconst 0, 1) := by decide +kernel
theorem dX11_slippery_59 : decode cX11_slippery 59 = .ok (.istore_n 2, 1) := by decide +kernel
theorem dX11_slippery_60 : decode cX11_slippery 60 = .ok (.iload_n 2, 1) := by decide +kernel
theorem dX11_slippery_61 : decode cX11_slippery 61 = .ok (.bipush 100, 2) := by decide +kernel
theorem dX11_slippery_63 : decode cX11_slippery 63 = .ok (.if_icmp .ge 33, 3) := by decide +kernel
theorem dX11_slippery_66 : decode cX11_slippery 66 = .ok (.aload_n 0, 1) := by decide +kernel
theorem dX11_slippery_67 : decode cX11_slippery 67 = .ok (.getfield 33, 3) := by decide +kernel
theorem dX11_slippery_70 : decode cX11_slippery 70 = .ok (.sipush 814, 3) := by decide +kernel
theorem dX11_slippery_73 : decode cX11_slippery 73 = .ok (.iload_n 2, 1) := by decide +kernel
theorem dX11_slippery_74 : decode cX11_slippery 74 = .ok (.iadd, 1) := by decide +kernel
theorem dX11_slippery_75 : decode cX11_slippery 75 = .ok (.iaload, 1) := by decide +kernel
theorem dX11_slippery_76 : decode cX11_slippery 76 = .ok (.iconst 1, 1) := by decide +kernel
theorem dX11_slippery_77 : decode cX11_slippery 77 = .ok (.if_icmp .ne 13, 3) := by decide +kernel
theorem dX11_slippery_80 : decode cX11_slippery 80 = .ok (.iload_n 1, 1) := by decide +kernel
theorem dX11_slippery_81 : decode cX11_slippery 81 = .ok (.aload_n 0, 1) := by decide +kernel
theorem dX11_slippery_82 : decode cX11_slippery 82 = .ok (.iload_n 2, 1) := by decide +kernel
theorem dX11_slippery_83 : decode cX11_slippery 83 = .ok (.invokevirtual 367, 3) := by decide +kernel
theorem dX11_slippery_86 : decode cX11_slippery 86 = .ok (.iconst (-1), 1) := by decide +kernel
theorem dX11_slippery_87 : decode cX11_slippery 87 = .ok (.ixor, 1) := by decide +kernel
theorem dX11_slippery_88 : decode cX11_slippery 88 = .ok (.iand, 1) := by decide +kernel
theorem dX11_slippery_89 : decode cX11_slippery 89 = .ok (.istore_n 1, 1) := by decide +kernel
theorem dX11_slippery_90 : decode cX11_slippery 90 = .ok (.iinc 2 1, 3) := by decide +kernel
theorem dX11_slippery_93 : decode cX11_slippery 93 = .ok (.goto (-33), 3) := by decide +kernel
theorem dX11_slippery_96 : decode cX11_slippery 96 = .ok (.iconst 0, 1) := by decide +kernel
theorem dX11_slippery_97 : decode cX11_slippery 97 = .ok (.istore_n 2, 1) := by decide +kernel
theorem dX11_slippery_98 : decode cX11_slippery 98 = .ok (.iload_n 2, 1) := by decide +kernel
theorem dX11_slippery_99 : decode cX11_slippery 99 = .ok (.sipush 512, 3) := by decide +kernel
theorem dX11_slippery_102 : decode cX11_slippery 102 = .ok (.if_icmp .ge 29, 3) := by decide +kernel
theorem dX11_slippery_105 : decode cX11_slippery 105 = .ok (.aload_n 0, 1) := by decide +kernel
theorem dX11_slippery_106 : decode cX11_slippery 106 = .ok (.getfield 84, 3) := by decide +kernel
theorem dX11_slippery_109 : decode cX11_slippery 109 = .ok (.ldc_w 370, 3) := by decide +kernel
theorem dX11_slippery_112 : decode cX11_slippery 112 = .ok (.iload_n 2, 1) := by decide +kernel
theorem dX11_slippery_113 : decode cX11_slippery 113 = .ok (.iadd, 1) := by decide +kernel
theorem dX11_slippery_114 : decode cX11_slippery 114 = .ok (.iload_n 2, 1) := by decide +kernel
theorem dX11_slippery_115 : decode cX11_slippery 115 = .ok (.ifCond .ne 7, 3) := by decide +kernel
theorem dX11_slippery_118 : decode cX11_slippery 118 = .ok (.iconst 0, 1) := by decide +kernel
theorem dX11_slippery_119 : decode cX11_slippery 119 = .ok (.goto 5, 3) := by decide +kernel
theorem dX11_slippery_122 : decode cX11_slippery 122 = .ok (.bipush 100, 2) := by decide +kernel
theorem dX11_slippery_124 : decode cX11_slippery 124 = .ok (.iastore, 1) := by decide +kernel
theorem dX11_slippery_125 : decode cX11_slippery 125 = .ok (.iinc 2 1, 3) := by decide +kernel
theorem dX11_slippery_128 : decode cX11_slippery 128 = .ok (.goto (-30), 3) := by decide +kernel
theorem dX11_slippery_131 : decode cX11_slippery 131 = .ok (.bipush 99, 2) := by decide +kernel
theorem dX11_slippery_133 : decode cX11_slippery 133 = .ok (.istore_n 2, 1) := by decide +kernel
theorem dX11_slippery_134 : decode cX11_slippery 134 = .ok (.iload_n 2, 1) := by decide +kernel
theorem dX11_slippery_135 : decode cX11_slippery 135 = .ok (.ifCond .lt 120, 3) := by decide +kernel
theorem dX11_slippery_138 : decode cX11_slippery 138 = .ok (.aload_n 0, 1) := by decide +kernel
theorem dX11_slippery_139 : decode cX11_slippery 139 = .ok (.iload_n 2, 1) := by decide +kernel
theorem dX11_slippery_140 : decode cX11_slippery 140 = .ok (.invokevirtual 271, 3) := by decide +kernel
theorem dX11_slippery_143 : decode cX11_slippery 143 = .ok (.ifCond .eq 11, 3) := by decide +kernel
theorem dX11_slippery_146 : decode cX11_slippery 146 = .ok (.aload_n 0, 1) := by decide +kernel
theorem dX11_slippery_147 : decode cX11_slippery 147 = .ok (.iload_n 2, 1) := by decide +kernel
theorem dX11_slippery_148 : decode cX11_slippery 148 = .ok (.invokevirtual 367, 3) := by decide +kernel
theorem dX11_slippery_151 : decode cX11_slippery 151 = .ok (.goto 4, 3) := by decide +kernel
theorem dX11_slippery_154 : decode cX11_slippery 154 = .ok (.iconst 0, 1) := by decide +kernel
theorem dX11_slippery_155 : decode cX11_slippery 155 = .ok (.istore_n 3, 1) := by decide +kernel
theorem dX11_slippery_156 : decode cX11_slippery 156 = .ok (.iconst 0, 1) := by decide +kernel
theorem dX11_slippery_157 : decode cX11_slippery 157 = .ok (.istore 4, 2) := by decide +kernel
theorem dX11_slippery_159 : decode cX11_slippery 159 = .ok (.iload 4, 2) := by decide +kernel
theorem dX11_slippery_161 : decode cX11_slippery 161 = .ok (.sipush 512, 3) := by decide +kernel
theorem dX11_slippery_164 : decode cX11_slippery 164 = .ok (.if_icmp .ge 85, 3) := by decide +kernel
theorem dX11_slippery_167 : decode cX11_slippery 167 = .ok (.aload_n 0, 1) := by decide +kernel
theorem dX11_slippery_168 : decode cX11_slippery 168 = .ok (.getfield 84, 3) := by decide +kernel
theorem dX11_slippery_171 : decode cX11_slippery 171 = .ok (.sipush 512, 3) := by decide +kernel
theorem dX11_slippery_174 : decode cX11_slippery 174 = .ok (.iload_n 2, 1) := by decide +kernel
theorem dX11_slippery_175 : decode cX11_slippery 175 = .ok (.iconst 1, 1) := by decide +kernel
theorem dX11_slippery_176 : decode cX11_slippery 176 = .ok (.iadd, 1) := by decide +kernel
theorem dX11_slippery_177 : decode cX11_slippery 177 = .ok (.imul, 1) := by decide +kernel
theorem dX11_slippery_178 : decode cX11_slippery 178 = .ok (.iload 4, 2) := by decide +kernel
theorem dX11_slippery_180 : decode cX11_slippery 180 = .ok (.iadd, 1) := by decide +kernel
theorem dX11_slippery_181 : decode cX11_slippery 181 = .ok (.iaload, 1) := by decide +kernel
theorem dX11_slippery_182 : decode cX11_slippery 182 = .ok (.istore 5, 2) := by decide +kernel
theorem dX11_slippery_184 : decode cX11_slippery 184 = .ok (.iload_n 3, 1) := by decide +kernel
theorem dX11_slippery_185 : decode cX11_slippery 185 = .ok (.ifCond .ne 8, 3) := by decide +kernel
theorem dX11_slippery_188 : decode cX11_slippery 188 = .ok (.bipush 100, 2) := by decide +kernel
theorem dX11_slippery_190 : decode cX11_slippery 190 = .ok (.goto 24, 3) := by decide +kernel
theorem dX11_slippery_193 : decode cX11_slippery 193 = .ok (.iconst 1, 1) := by decide +kernel
theorem dX11_slippery_194 : decode cX11_slippery 194 = .ok (.aload_n 0, 1) := by decide +kernel
theorem dX11_slippery_195 : decode cX11_slippery 195 = .ok (.getfield 84, 3) := by decide +kernel
theorem dX11_slippery_198 : decode cX11_slippery 198 = .ok (.sipush 512, 3) := by decide +kernel
theorem dX11_slippery_201 : decode cX11_slippery 201 = .ok (.iload_n 2, 1) := by decide +kernel
theorem dX11_slippery_202 : decode cX11_slippery 202 = .ok (.iconst 1, 1) := by decide +kernel
theorem dX11_slippery_203 : decode cX11_slippery 203 = .ok (.iadd, 1) := by decide +kernel
theorem dX11_slippery_204 : decode cX11_slippery 204 = .ok (.imul, 1) := by decide +kernel
theorem dX11_slippery_205 : decode cX11_slippery 205 = .ok (.iload 4, 2) := by decide +kernel
theorem dX11_slippery_207 : decode cX11_slippery 207 = .ok (.iload_n 3, 1) := by decide +kernel
theorem dX11_slippery_208 : decode cX11_slippery 208 = .ok (.iconst (-1), 1) := by decide +kernel
theorem dX11_slippery_209 : decode cX11_slippery 209 = .ok (.ixor, 1) := by decide +kernel
theorem dX11_slippery_210 : decode cX11_slippery 210 = .ok (.iand, 1) := by decide +kernel
theorem dX11_slippery_211 : decode cX11_slippery 211 = .ok (.iadd, 1) := by decide +kernel
theorem dX11_slippery_212 : decode cX11_slippery 212 = .ok (.iaload, 1) := by decide +kernel
theorem dX11_slippery_213 : decode cX11_slippery 213 = .ok (.iadd, 1) := by decide +kernel
theorem dX11_slippery_214 : decode cX11_slippery 214 = .ok (.istore 6, 2) := by decide +kernel
theorem dX11_slippery_216 : decode cX11_slippery 216 = .ok (.aload_n 0, 1) := by decide +kernel
theorem dX11_slippery_217 : decode cX11_slippery 217 = .ok (.getfield 84, 3) := by decide +kernel
theorem dX11_slippery_220 : decode cX11_slippery 220 = .ok (.sipush 512, 3) := by decide +kernel
theorem dX11_slippery_223 : decode cX11_slippery 223 = .ok (.iload_n 2, 1) := by decide +kernel
theorem dX11_slippery_224 : decode cX11_slippery 224 = .ok (.imul, 1) := by decide +kernel
theorem dX11_slippery_225 : decode cX11_slippery 225 = .ok (.iload 4, 2) := by decide +kernel
theorem dX11_slippery_227 : decode cX11_slippery 227 = .ok (.iadd, 1) := by decide +kernel
theorem dX11_slippery_228 : decode cX11_slippery 228 = .ok (.iload 6, 2) := by decide +kernel
theorem dX11_slippery_230 : decode cX11_slippery 230 = .ok (.iload 5, 2) := by decide +kernel
theorem dX11_slippery_232 : decode cX11_slippery 232 = .ok (.if_icmp .ge 8, 3) := by decide +kernel
theorem dX11_slippery_235 : decode cX11_slippery 235 = .ok (.iload 6, 2) := by decide +kernel
theorem dX11_slippery_237 : decode cX11_slippery 237 = .ok (.goto 5, 3) := by decide +kernel
theorem dX11_slippery_240 : decode cX11_slippery 240 = .ok (.iload 5, 2) := by decide +kernel
theorem dX11_slippery_242 : decode cX11_slippery 242 = .ok (.iastore, 1) := by decide +kernel
theorem dX11_slippery_243 : decode cX11_slippery 243 = .ok (.iinc 4 1, 3) := by decide +kernel
theorem dX11_slippery_246 : decode cX11_slippery 246 = .ok (.goto (-87), 3) := by decide +kernel
theorem dX11_slippery_249 : decode cX11_slippery 249 = .ok (.iinc 2 (-1), 3) := by decide +kernel
theorem dX11_slippery_252 : decode cX11_slippery 252 = .ok (.goto (-118), 3) := by decide +kernel
theorem dX11_slippery_255 : decode cX11_slippery 255 = .ok (.aload_n 0, 1) := by decide +kernel
theorem dX11_slippery_256 : decode cX11_slippery 256 = .ok (.iconst 0, 1) := by decide +kernel
theorem dX11_slippery_257 : decode cX11_slippery 257 = .ok (.putfield 371, 3) := by decide +kernel
theorem dX11_slippery_260 : decode cX11_slippery 260 = .ok (.iload_n 1, 1) := by decide +kernel
theorem dX11_slippery_261 : decode cX11_slippery 261 = .ok (.istore_n 2, 1) := by decide +kernel
theorem dX11_slippery_262 : decode cX11_slippery 262 = .ok (.iconst 0, 1) := by decide +kernel
theorem dX11_slippery_263 : decode cX11_slippery 263 = .ok (.istore_n 3, 1) := by decide +kernel
theorem dX11_slippery_264 : decode cX11_slippery 264 = .ok (.iload_n 2, 1) := by decide +kernel
theorem dX11_slippery_265 : decode cX11_slippery 265 = .ok (.ifCond .eq 99, 3) := by decide +kernel
theorem dX11_slippery_268 : decode cX11_slippery 268 = .ok (.aload_n 0, 1) := by decide +kernel
theorem dX11_slippery_269 : decode cX11_slippery 269 = .ok (.iload_n 3, 1) := by decide +kernel
theorem dX11_slippery_270 : decode cX11_slippery 270 = .ok (.invokevirtual 271, 3) := by decide +kernel
theorem dX11_slippery_273 : decode cX11_slippery 273 = .ok (.ifCond .eq 11, 3) := by decide +kernel
theorem dX11_slippery_276 : decode cX11_slippery 276 = .ok (.aload_n 0, 1) := by decide +kernel
theorem dX11_slippery_277 : decode cX11_slippery 277 = .ok (.iload_n 3, 1) := by decide +kernel
theorem dX11_slippery_278 : decode cX11_slippery 278 = .ok (.invokevirtual 367, 3) := by decide +kernel
theorem dX11_slippery_281 : decode cX11_slippery 281 = .ok (.goto 4, 3) := by decide +kernel
theorem dX11_slippery_284 : decode cX11_slippery 284 = .ok (.iconst 0, 1) := by decide +kernel
theorem dX11_slippery_285 : decode cX11_slippery 285 = .ok (.istore 4, 2) := by decide +kernel
theorem dX11_slippery_287 : decode cX11_slippery 287 = .ok (.iload 4, 2) := by decide +kernel
theorem dX11_slippery_289 : decode cX11_slippery 289 = .ok (.ifCond .eq 69, 3) := by decide +kernel
theorem dX11_slippery_292 : decode cX11_slippery 292 = .ok (.iconst 1, 1) := by decide +kernel
theorem dX11_slippery_293 : decode cX11_slippery 293 = .ok (.aload_n 0, 1) := by decide +kernel
theorem dX11_slippery_294 : decode cX11_slippery 294 = .ok (.getfield 84, 3) := by decide +kernel
theorem dX11_slippery_297 : decode cX11_slippery 297 = .ok (.sipush 512, 3) := by decide +kernel
theorem dX11_slippery_300 : decode cX11_slippery 300 = .ok (.iload_n 3, 1) := by decide +kernel
theorem dX11_slippery_301 : decode cX11_slippery 301 = .ok (.iconst 1, 1) := by decide +kernel
theorem dX11_slippery_302 : decode cX11_slippery 302 = .ok (.iadd, 1) := by decide +kernel
theorem dX11_slippery_303 : decode cX11_slippery 303 = .ok (.imul, 1) := by decide +kernel
theorem dX11_slippery_304 : decode cX11_slippery 304 = .ok (.iload_n 2, 1) := by decide +kernel
theorem dX11_slippery_305 : decode cX11_slippery 305 = .ok (.iload 4, 2) := by decide +kernel
theorem dX11_slippery_307 : decode cX11_slippery 307 = .ok (.iconst (-1), 1) := by decide +kernel
theorem dX11_slippery_308 : decode cX11_slippery 308 = .ok (.ixor, 1) := by decide +kernel
theorem dX11_slippery_309 : decode cX11_slippery 309 = .ok (.iand, 1) := by decide +kernel
theorem dX11_slippery_310 : decode cX11_slippery 310 = .ok (.iadd, 1) := by decide +kernel
theorem dX11_slippery_311 : decode cX11_slippery 311 = .ok (.iaload, 1) := by decide +kernel
theorem dX11_slippery_312 : decode cX11_slippery 312 = .ok (.iadd, 1) := by decide +kernel
theorem dX11_slippery_313 : decode cX11_slippery 313 = .ok (.aload_n 0, 1) := by decide +kernel
theorem dX11_slippery_314 : decode cX11_slippery 314 = .ok (.getfield 84, 3) := by decide +kernel
theorem dX11_slippery_317 : decode cX11_slippery 317 = .ok (.sipush 512, 3) := by decide +kernel
theorem dX11_slippery_320 : decode cX11_slippery 320 = .ok (.iload_n 3, 1) := by decide +kernel
theorem dX11_slippery_321 : decode cX11_slippery 321 = .ok (.imul, 1) := by decide +kernel
theorem dX11_slippery_322 : decode cX11_slippery 322 = .ok (.iload_n 2, 1) := by decide +kernel
theorem dX11_slippery_323 : decode cX11_slippery 323 = .ok (.iadd, 1) := by decide +kernel
theorem dX11_slippery_324 : decode cX11_slippery 324 = .ok (.iaload, 1) := by decide +kernel
theorem dX11_slippery_325 : decode cX11_slippery 325 = .ok (.if_icmp .eq 6, 3) := by decide +kernel
theorem dX11_slippery_328 : decode cX11_slippery 328 = .ok (.goto 30, 3) := by decide +kernel
theorem dX11_slippery_331 : decode cX11_slippery 331 = .ok (.aload_n 0, 1) := by decide +kernel
theorem dX11_slippery_332 : decode cX11_slippery 332 = .ok (.getfield 87, 3) := by decide +kernel
theorem dX11_slippery_335 : decode cX11_slippery 335 = .ok (.aload_n 0, 1) := by decide +kernel
theorem dX11_slippery_336 : decode cX11_slippery 336 = .ok (.getfield 371, 3) := by decide +kernel
theorem dX11_slippery_339 : decode cX11_slippery 339 = .ok (.iload_n 3, 1) := by decide +kernel
theorem dX11_slippery_340 : decode cX11_slippery 340 = .ok (.iastore, 1) := by decide +kernel
theorem dX11_slippery_341 : decode cX11_slippery 341 = .ok (.aload_n 0, 1) := by decide +kernel
theorem dX11_slippery_342 : decode cX11_slippery 342 = .ok (.dup, 1) := by decide +kernel
theorem dX11_slippery_343 : decode cX11_slippery 343 = .ok (.getfield 371, 3) := by decide +kernel
theorem dX11_slippery_346 : decode cX11_slippery 346 = .ok (.iconst 1, 1) := by decide +kernel
theorem dX11_slippery_347 : decode cX11_slippery 347 = .ok (.iadd, 1) := by decide +kernel
theorem dX11_slippery_348 : decode cX11_slippery 348 = .ok (.putfield 371, 3) := by decide +kernel
theorem dX11_slippery_351 : decode cX11_slippery 351 = .ok (.iload_n 2, 1) := by decide +kernel
theorem dX11_slippery_352 : decode cX11_slippery 352 = .ok (.iload 4, 2) := by decide +kernel
theorem dX11_slippery_354 : decode cX11_slippery 354 = .ok (.iconst (-1), 1) := by decide +kernel
theorem dX11_slippery_355 : decode cX11_slippery 355 = .ok (.ixor, 1) := by decide +kernel
theorem dX11_slippery_356 : decode cX11_slippery 356 = .ok (.iand, 1) := by decide +kernel
theorem dX11_slippery_357 : decode cX11_slippery 357 = .ok (.istore_n 2, 1) := by decide +kernel
theorem dX11_slippery_358 : decode cX11_slippery 358 = .ok (.iinc 3 1, 3) := by decide +kernel
theorem dX11_slippery_361 : decode cX11_slippery 361 = .ok (.goto (-97), 3) := by decide +kernel
theorem dX11_slippery_364 : decode cX11_slippery 364 = .ok (.aload_n 0, 1) := by decide +kernel
theorem dX11_slippery_365 : decode cX11_slippery 365 = .ok (.getfield 371, 3) := by decide +kernel
theorem dX11_slippery_368 : decode cX11_slippery 368 = .ok (.ireturn, 1) := by decide +kernel
theorem dX11_dry_0 : decode cX11_dry 0 = .ok (.aload_n 0, 1) := by decide +kernel
theorem dX11_dry_1 : decode cX11_dry 1 = .ok (.iconst 0, 1) := by decide +kernel
theorem dX11_dry_2 : decode cX11_dry 2 = .ok (.putfield 1, 3) := by decide +kernel
theorem dX11_dry_5 : decode cX11_dry 5 = .ok (.iload_n 1, 1) := by decide +kernel
theorem dX11_dry_6 : decode cX11_dry 6 = .ok (.iconst 0, 1) := by decide +kernel
theorem dX11_dry_7 : decode cX11_dry 7 = .ok (.aload_n 0, 1) := by decide +kernel
theorem dX11_dry_8 : decode cX11_dry 8 = .ok (.getfield 371, 3) := by decide +kernel
theorem dX11_dry_11 : decode cX11_dry 11 = .ok (.iconst 1, 1) := by decide +kernel
theorem dX11_dry_12 : decode cX11_dry 12 = .ok (.isub, 1) := by decide +kernel
theorem dX11_dry_13 : decode cX11_dry 13 = .ok (.invokestatic 194, 3) := by decide +kernel
theorem dX11_dry_16 : decode cX11_dry 16 = .ok (.ifCond .eq 12, 3) := by decide +kernel
theorem dX11_dry_19 : decode cX11_dry 19 = .ok (.aload_n 0, 1) := by decide +kernel
theorem dX11_dry_20 : decode cX11_dry 20 = .ok (.getfield 87, 3) := by decide +kernel
theorem dX11_dry_23 : decode cX11_dry 23 = .ok (.iload_n 1, 1) := by decide +kernel
theorem dX11_dry_24 : decode cX11_dry 24 = .ok (.iaload, 1) := by decide +kernel
theorem dX11_dry_25 : decode cX11_dry 25 = .ok (.goto 4, 3) := by decide +kernel
theorem dX11_dry_28 : decode cX11_dry 28 = .ok (.iconst (-1), 1) := by decide +kernel
theorem dX11_dry_29 : decode cX11_dry 29 = .ok (.ireturn, 1) := by decide +kernel
theorem dX11_table_0 : decode cX11_table 0 = .ok (.aload_n 0, 1) := by decide +kernel
theorem dX11_table_1 : decode cX11_table 1 = .ok (.iconst 0, 1) := by decide +kernel
theorem dX11_table_2 : decode cX11_table 2 = .ok (.putfield 1, 3) := by decide +kernel
theorem dX11_table_5 : decode cX11_table 5 = .ok (.aload_n 0, 1) := by decide +kernel
theorem dX11_table_6 : decode cX11_table 6 = .ok (.sipush 940, 3) := by decide +kernel
theorem dX11_table_9 : decode cX11_table 9 = .ok (.invokevirtual 236, 3) := by decide +kernel
theorem dX11_table_12 : decode cX11_table 12 = .ok (.aload_n 0, 1) := by decide +kernel
theorem dX11_table_13 : decode cX11_table 13 = .ok (.getfield 33, 3) := by decide +kernel
theorem dX11_table_16 : decode cX11_table 16 = .ok (.iconst 2, 1) := by decide +kernel
theorem dX11_table_17 : decode cX11_table 17 = .ok (.iaload, 1) := by decide +kernel
theorem dX11_table_18 : decode cX11_table 18 = .ok (.iconst 2, 1) := by decide +kernel
theorem dX11_table_19 : decode cX11_table 19 = .ok (.if_icmp .lt 27, 3) := by decide +kernel
theorem dX11_table_22 : decode cX11_table 22 = .ok (.aload_n 0, 1) := by decide +kernel
theorem dX11_table_23 : decode cX11_table 23 = .ok (.getfield 18, 3) := by decide +kernel
theorem dX11_table_26 : decode cX11_table 26 = .ok (.iconst 2, 1) := by decide +kernel
theorem dX11_table_27 : decode cX11_table 27 = .ok (.irem, 1) := by decide +kernel
theorem dX11_table_28 : decode cX11_table 28 = .ok (.ifCond .ne 18, 3) := by decide +kernel
theorem dX11_table_31 : decode cX11_table 31 = .ok (.aload_n 0, 1) := by decide +kernel
theorem dX11_table_32 : decode cX11_table 32 = .ok (.getfield 18, 3) := by decide +kernel
theorem dX11_table_35 : decode cX11_table 35 = .ok (.iconst 2, 1) := by decide +kernel
theorem dX11_table_36 : decode cX11_table 36 = .ok (.idiv, 1) := by decide +kernel
theorem dX11_table_37 : decode cX11_table 37 = .ok (.iconst 1, 1) := by decide +kernel
theorem dX11_table_38 : decode cX11_table 38 = .ok (.bipush 6, 2) := by decide +kernel
theorem dX11_table_40 : decode cX11_table 40 = .ok (.invokestatic 194, 3) := by decide +kernel
theorem dX11_table_43 : decode cX11_table 43 = .ok (.ifCond .ne 5, 3) := by decide +kernel
theorem dX11_table_46 : decode cX11_table 46 = .ok (.iconst (-1), 1) := by decide +kernel
theorem dX11_table_47 : decode cX11_table 47 = .ok (.ireturn, 1) := by decide +kernel
theorem dX11_table_48 : decode cX11_table 48 = .ok (.aload_n 0, 1) := by decide +kernel
theorem dX11_table_49 : decode cX11_table 49 = .ok (.getfield 18, 3) := by decide +kernel
theorem dX11_table_52 : decode cX11_table 52 = .ok (.iconst 2, 1) := by decide +kernel
theorem dX11_table_53 : decode cX11_table 53 = .ok (.idiv, 1) := by decide +kernel
theorem dX11_table_54 : decode cX11_table 54 = .ok (.istore_n 1, 1) := by decide +kernel
theorem dX11_table_55 : decode cX11_table 55 = .ok (.iconst 0, 1) := by decide +kernel
theorem dX11_table_56 : decode cX11_table 56 = .ok (.istore_n 2, 1) := by decide +kernel
theorem dX11_table_57 : decode cX11_table 57 = .ok (.iload_n 2, 1) := by decide +kernel
theorem dX11_table_58 : decode cX11_table 58 = .ok (.iload_n 1, 1) := by decide +kernel
theorem dX11_table_59 : decode cX11_table 59 = .ok (.if_icmp .ge 37, 3) := by decide +kernel
theorem dX11_table_62 : decode cX11_table 62 = .ok (.aload_n 0, 1) := by decide +kernel
theorem dX11_table_63 : decode cX11_table 63 = .ok (.iconst 2, 1) := by decide +kernel
theorem dX11_table_64 : decode cX11_table 64 = .ok (.iload_n 2, 1) := by decide +kernel
theorem dX11_table_65 : decode cX11_table 65 = .ok (.imul, 1) := by decide +kernel
theorem dX11_table_66 : decode cX11_table 66 = .ok (.invokevirtual 330, 3) := by decide +kernel
theorem dX11_table_69 : decode cX11_table 69 = .ok (.bipush 18, 2) := by decide +kernel
theorem dX11_table_71 : decode cX11_table 71 = .ok (.if_icmp .gt 17, 3) := by decide +kernel
theorem dX11_table_74 : decode cX11_table 74 = .ok (.aload_n 0, 1) := by decide +kernel
theorem dX11_table_75 : decode cX11_table 75 = .ok (.iconst 2, 1) := by decide +kernel
theorem dX11_table_76 : decode cX11_table 76 = .ok (.iload_n 2, 1) := by decide +kernel
theorem dX11_table_77 : decode cX11_table 77 = .ok (.imul, 1) := by decide +kernel
theorem dX11_table_78 : decode cX11_table 78 = .ok (.iconst 1, 1) := by decide +kernel
theorem dX11_table_79 : decode cX11_table 79 = .ok (.iadd, 1) := by decide +kernel
theorem dX11_table_80 : decode cX11_table 80 = .ok (.invokevirtual 330, 3) := by decide +kernel
theorem dX11_table_83 : decode cX11_table 83 = .ok (.bipush 99, 2) := by decide +kernel
theorem dX11_table_85 : decode cX11_table 85 = .ok (.if_icmp .le 5, 3) := by decide +kernel
theorem dX11_table_88 : decode cX11_table 88 = .ok (.iconst (-1), 1) := by decide +kernel
theorem dX11_table_89 : decode cX11_table 89 = .ok (.ireturn, 1) := by decide +kernel
theorem dX11_table_90 : decode cX11_table 90 = .ok (.iinc 2 1, 3) := by decide +kernel
theorem dX11_table_93 : decode cX11_table 93 = .ok (.goto (-36), 3) := by decide +kernel
theorem dX11_table_96 : decode cX11_table 96 = .ok (.iconst 0, 1) := by decide +kernel
theorem dX11_table_97 : decode cX11_table 97 = .ok (.istore_n 2, 1) := by decide +kernel
theorem dX11_table_98 : decode cX11_table 98 = .ok (.iload_n 2, 1) := by decide +kernel
theorem dX11_table_99 : decode cX11_table 99 = .ok (.iconst 2, 1) := by decide +kernel
theorem dX11_table_100 : decode cX11_table 100 = .ok (.if_icmp .ge 78, 3) := by decide +kernel
theorem dX11_table_103 : decode cX11_table 103 = .ok (.aload_n 0, 1) := by decide +kernel
theorem dX11_table_104 : decode cX11_table 104 = .ok (.getfield 93, 3) := by decide +kernel
theorem dX11_table_107 : decode cX11_table 107 = .ok (.iconst 3, 1) := by decide +kernel
theorem dX11_table_108 : decode cX11_table 108 = .ok (.iload_n 2, 1) := by decide +kernel
theorem dX11_table_109 : decode cX11_table 109 = .ok (.imul, 1) := by decide +kernel
theorem dX11_table_110 : decode cX11_table 110 = .ok (.aload_n 0, 1) := by decide +kernel
theorem dX11_table_111 : decode cX11_table 111 = .ok (.getfield 33, 3) := by decide +kernel
theorem dX11_table_114 : decode cX11_table 114 = .ok (.sipush 427, 3) := by decide +kernel
theorem dX11_table_117 : decode cX11_table 117 = .ok (.iload_n 2, 1) := by decide +kernel
theorem dX11_table_118 : decode cX11_table 118 = .ok (.iadd, 1) := by decide +kernel
theorem dX11_table_119 : decode cX11_table 119 = .ok (.iaload, 1) := by decide +kernel
theorem dX11_table_120 : decode cX11_table 120 = .ok (.iastore, 1) := by decide +kernel
theorem dX11_table_121 : decode cX11_table 121 = .ok (.aload_n 0, 1) := by decide +kernel
theorem dX11_table_122 : decode cX11_table 122 = .ok (.getfield 93, 3) := by decide +kernel
theorem dX11_table_125 : decode cX11_table 125 = .ok (.iconst 3, 1) := by decide +kernel
theorem dX11_table_126 : decode cX11_table 126 = .ok (.iload_n 2, 1) := by decide +kernel
theorem dX11_table_127 : decode cX11_table 127 = .ok (.imul, 1) := by decide +kernel
theorem dX11_table_128 : decode cX11_table 128 = .ok (.iconst 1, 1) := by decide +kernel
theorem dX11_table_129 : decode cX11_table 129 = .ok (.iadd, 1) := by decide +kernel
theorem dX11_table_130 : decode cX11_table 130 = .ok (.aload_n 0, 1) := by decide +kernel
theorem dX11_table_131 : decode cX11_table 131 = .ok (.getfield 33, 3) := by decide +kernel
theorem dX11_table_134 : decode cX11_table 134 = .ok (.sipush 436, 3) := by decide +kernel
theorem dX11_table_137 : decode cX11_table 137 = .ok (.iload_n 2, 1) := by decide +kernel
theorem dX11_table_138 : decode cX11_table 138 = .ok (.iadd, 1) := by decide +kernel
theorem dX11_table_139 : decode cX11_table 139 = .ok (.iaload, 1) := by decide +kernel
theorem dX11_table_140 : decode cX11_table 140 = .ok (.iastore, 1) := by decide +kernel
theorem dX11_table_141 : decode cX11_table 141 = .ok (.aload_n 0, 1) := by decide +kernel
theorem dX11_table_142 : decode cX11_table 142 = .ok (.getfield 93, 3) := by decide +kernel
theorem dX11_table_145 : decode cX11_table 145 = .ok (.iconst 3, 1) := by decide +kernel
theorem dX11_table_146 : decode cX11_table 146 = .ok (.iload_n 2, 1) := by decide +kernel
theorem dX11_table_147 : decode cX11_table 147 = .ok (.imul, 1) := by decide +kernel
theorem dX11_table_148 : decode cX11_table 148 = .ok (.iconst 2, 1) := by decide +kernel
theorem dX11_table_149 : decode cX11_table 149 = .ok (.iadd, 1) := by decide +kernel
theorem dX11_table_150 : decode cX11_table 150 = .ok (.aload_n 0, 1) := by decide +kernel
theorem dX11_table_151 : decode cX11_table 151 = .ok (.getfield 33, 3) := by decide +kernel
theorem dX11_table_154 : decode cX11_table 154 = .ok (.sipush 445, 3) := by decide +kernel
theorem dX11_table_157 : decode cX11_table 157 = .ok (.iload_n 2, 1) := by decide +kernel
theorem dX11_table_158 : decode cX11_table 158 = .ok (.iadd, 1) := by decide +kernel
theorem dX11_table_159 : decode cX11_table 159 = .ok (.iaload, 1) := by decide +kernel
theorem dX11_table_160 : decode cX11_table 160 = .ok (.iastore, 1) := by decide +kernel
theorem dX11_table_161 : decode cX11_table 161 = .ok (.aload_n 0, 1) := by decide +kernel
theorem dX11_table_162 : decode cX11_table 162 = .ok (.getfield 33, 3) := by decide +kernel
theorem dX11_table_165 : decode cX11_table 165 = .ok (.sipush 445, 3) := by decide +kernel
theorem dX11_table_168 : decode cX11_table 168 = .ok (.iload_n 2, 1) := by decide +kernel
theorem dX11_table_169 : decode cX11_table 169 = .ok (.iadd, 1) := by decide +kernel
theorem dX11_table_170 : decode cX11_table 170 = .ok (.iconst 0, 1) := by decide +kernel
theorem dX11_table_171 : decode cX11_table 171 = .ok (.iastore, 1) := by decide +kernel
theorem dX11_table_172 : decode cX11_table 172 = .ok (.iinc 2 1, 3) := by decide +kernel
theorem dX11_table_175 : decode cX11_table 175 = .ok (.goto (-77), 3) := by decide +kernel
theorem dX11_table_178 : decode cX11_table 178 = .ok (.iconst 0, 1) := by decide +kernel
theorem dX11_table_179 : decode cX11_table 179 = .ok (.istore_n 2, 1) := by decide +kernel
theorem dX11_table_180 : decode cX11_table 180 = .ok (.iload_n 2, 1) := by decide +kernel
theorem dX11_table_181 : decode cX11_table 181 = .ok (.iload_n 1, 1) := by decide +kernel
theorem dX11_table_182 : decode cX11_table 182 = .ok (.if_icmp .ge 134, 3) := by decide +kernel
theorem dX11_table_185 : decode cX11_table 185 = .ok (.iconst 0, 1) := by decide +kernel
theorem dX11_table_186 : decode cX11_table 186 = .ok (.istore_n 3, 1) := by decide +kernel
theorem dX11_table_187 : decode cX11_table 187 = .ok (.iload_n 3, 1) := by decide +kernel
theorem dX11_table_188 : decode cX11_table 188 = .ok (.iload_n 1, 1) := by decide +kernel
theorem dX11_table_189 : decode cX11_table 189 = .ok (.if_icmp .ge 121, 3) := by decide +kernel
theorem dX11_table_192 : decode cX11_table 192 = .ok (.aload_n 0, 1) := by decide +kernel
theorem dX11_table_193 : decode cX11_table 193 = .ok (.getfield 33, 3) := by decide +kernel
theorem dX11_table_196 : decode cX11_table 196 = .ok (.sipush 427, 3) := by decide +kernel
theorem dX11_table_199 : decode cX11_table 199 = .ok (.aload_n 0, 1) := by decide +kernel
theorem dX11_table_200 : decode cX11_table 200 = .ok (.iconst 2, 1) := by decide +kernel
theorem dX11_table_201 : decode cX11_table 201 = .ok (.iload_n 2, 1) := by decide +kernel
theorem dX11_table_202 : decode cX11_table 202 = .ok (.imul, 1) := by decide +kernel
theorem dX11_table_203 : decode cX11_table 203 = .ok (.invokevirtual 330, 3) := by decide +kernel
theorem dX11_table_206 : decode cX11_table 206 = .ok (.iconst 1, 1) := by decide +kernel
theorem dX11_table_207 : decode cX11_table 207 = .ok (.iadd, 1) := by decide +kernel
theorem dX11_table_208 : decode cX11_table 208 = .ok (.iastore, 1) := by decide +kernel
theorem dX11_table_209 : decode cX11_table 209 = .ok (.aload_n 0, 1) := by decide +kernel
theorem dX11_table_210 : decode cX11_table 210 = .ok (.getfield 33, 3) := by decide +kernel
theorem dX11_table_213 : decode cX11_table 213 = .ok (.sipush 436, 3) := by decide +kernel
theorem dX11_table_216 : decode cX11_table 216 = .ok (.aload_n 0, 1) := by decide +kernel
theorem dX11_table_217 : decode cX11_table 217 = .ok (.iconst 2, 1) := by decide +kernel
theorem dX11_table_218 : decode cX11_table 218 = .ok (.iload_n 2, 1) := by decide +kernel
theorem dX11_table_219 : decode cX11_table 219 = .ok (.imul, 1) := by decide +kernel
theorem dX11_table_220 : decode cX11_table 220 = .ok (.iconst 1, 1) := by decide +kernel
theorem dX11_table_221 : decode cX11_table 221 = .ok (.iadd, 1) := by decide +kernel
theorem dX11_table_222 : decode cX11_table 222 = .ok (.invokevirtual 330, 3) := by decide +kernel
theorem dX11_table_225 : decode cX11_table 225 = .ok (.iastore, 1) := by decide +kernel
theorem dX11_table_226 : decode cX11_table 226 = .ok (.aload_n 0, 1) := by decide +kernel
theorem dX11_table_227 : decode cX11_table 227 = .ok (.getfield 33, 3) := by decide +kernel
theorem dX11_table_230 : decode cX11_table 230 = .ok (.sipush 428, 3) := by decide +kernel
theorem dX11_table_233 : decode cX11_table 233 = .ok (.aload_n 0, 1) := by decide +kernel
theorem dX11_table_234 : decode cX11_table 234 = .ok (.iconst 2, 1) := by decide +kernel
theorem dX11_table_235 : decode cX11_table 235 = .ok (.iload_n 3, 1) := by decide +kernel
theorem dX11_table_236 : decode cX11_table 236 = .ok (.imul, 1) := by decide +kernel
theorem dX11_table_237 : decode cX11_table 237 = .ok (.invokevirtual 330, 3) := by decide +kernel
theorem dX11_table_240 : decode cX11_table 240 = .ok (.iconst 1, 1) := by decide +kernel
theorem dX11_table_241 : decode cX11_table 241 = .ok (.iadd, 1) := by decide +kernel
theorem dX11_table_242 : decode cX11_table 242 = .ok (.iastore, 1) := by decide +kernel
theorem dX11_table_243 : decode cX11_table 243 = .ok (.aload_n 0, 1) := by decide +kernel
theorem dX11_table_244 : decode cX11_table 244 = .ok (.getfield 33, 3) := by decide +kernel
theorem dX11_table_247 : decode cX11_table 247 = .ok (.sipush 437, 3) := by decide +kernel
theorem dX11_table_250 : decode cX11_table 250 = .ok (.aload_n 0, 1) := by decide +kernel
theorem dX11_table_251 : decode cX11_table 251 = .ok (.iconst 2, 1) := by decide +kernel
theorem dX11_table_252 : decode cX11_table 252 = .ok (.iload_n 3, 1) := by decide +kernel
theorem dX11_table_253 : decode cX11_table 253 = .ok (.imul, 1) := by decide +kernel
theorem dX11_table_254 : decode cX11_table 254 = .ok (.iconst 1, 1) := by decide +kernel
theorem dX11_table_255 : decode cX11_table 255 = .ok (.iadd, 1) := by decide +kernel
theorem dX11_table_256 : decode cX11_table 256 = .ok (.invokevirtual 330, 3) := by decide +kernel
theorem dX11_table_259 : decode cX11_table 259 = .ok (.iastore, 1) := by decide +kernel
theorem dX11_table_260 : decode cX11_table 260 = .ok (.aload_n 0, 1) := by decide +kernel
theorem dX11_table_261 : decode cX11_table 261 = .ok (.invokevirtual 323, 3) := by decide +kernel
theorem dX11_table_264 : decode cX11_table 264 = .ok (.aload_n 0, 1) := by decide +kernel
theorem dX11_table_265 : decode cX11_table 265 = .ok (.getfield 90, 3) := by decide +kernel
theorem dX11_table_268 : decode cX11_table 268 = .ok (.bipush 12, 2) := by decide +kernel
theorem dX11_table_270 : decode cX11_table 270 = .ok (.iload_n 2, 1) := by decide +kernel
theorem dX11_table_271 : decode cX11_table 271 = .ok (.imul, 1) := by decide +kernel
theorem dX11_table_272 : decode cX11_table 272 = .ok (.iconst 2, 1) := by decide +kernel
theorem dX11_table_273 : decode cX11_table 273 = .ok (.iload_n 3, 1) := by decide +kernel
theorem dX11_table_274 : decode cX11_table 274 = .ok (.imul, 1) := by decide +kernel
theorem dX11_table_275 : decode cX11_table 275 = .ok (.iadd, 1) := by decide +kernel
theorem dX11_table_276 : decode cX11_table 276 = .ok (.aload_n 0, 1) := by decide +kernel
theorem dX11_table_277 : decode cX11_table 277 = .ok (.getfield 53, 3) := by decide +kernel
theorem dX11_table_280 : decode cX11_table 280 = .ok (.iconst 0, 1) := by decide +kernel
theorem dX11_table_281 : decode cX11_table 281 = .ok (.iaload, 1) := by decide +kernel
theorem dX11_table_282 : decode cX11_table 282 = .ok (.iastore, 1) := by decide +kernel
theorem dX11_table_283 : decode cX11_table 283 = .ok (.aload_n 0, 1) := by decide +kernel
theorem dX11_table_284 : decode cX11_table 284 = .ok (.getfield 90, 3) := by decide +kernel
theorem dX11_table_287 : decode cX11_table 287 = .ok (.bipush 12, 2) := by decide +kernel
theorem dX11_table_289 : decode cX11_table 289 = .ok (.iload_n 2, 1) := by decide +kernel
theorem dX11_table_290 : decode cX11_table 290 = .ok (.imul, 1) := by decide +kernel
theorem dX11_table_291 : decode cX11_table 291 = .ok (.iconst 2, 1) := by decide +kernel
theorem dX11_table_292 : decode cX11_table 292 = .ok (.iload_n 3, 1) := by decide +kernel
theorem dX11_table_293 : decode cX11_table 293 = .ok (.imul, 1) := by decide +kernel
theorem dX11_table_294 : decode cX11_table 294 = .ok (.iadd, 1) := by decide +kernel
theorem dX11_table_295 : decode cX11_table 295 = .ok (.iconst 1, 1) := by decide +kernel
theorem dX11_table_296 : decode cX11_table 296 = .ok (.iadd, 1) := by decide +kernel
theorem dX11_table_297 : decode cX11_table 297 = .ok (.aload_n 0, 1) := by decide +kernel
theorem dX11_table_298 : decode cX11_table 298 = .ok (.getfield 53, 3) := by decide +kernel
theorem dX11_table_301 : decode cX11_table 301 = .ok (.iconst 1, 1) := by decide +kernel
theorem dX11_table_302 : decode cX11_table 302 = .ok (.iaload, 1) := by decide +kernel
theorem dX11_table_303 : decode cX11_table 303 = .ok (.iastore, 1) := by decide +kernel
theorem dX11_table_304 : decode cX11_table 304 = .ok (.iinc 3 1, 3) := by decide +kernel
theorem dX11_table_307 : decode cX11_table 307 = .ok (.goto (-120), 3) := by decide +kernel
theorem dX11_table_310 : decode cX11_table 310 = .ok (.iinc 2 1, 3) := by decide +kernel
theorem dX11_table_313 : decode cX11_table 313 = .ok (.goto (-133), 3) := by decide +kernel
theorem dX11_table_316 : decode cX11_table 316 = .ok (.iconst 0, 1) := by decide +kernel
theorem dX11_table_317 : decode cX11_table 317 = .ok (.istore_n 2, 1) := by decide +kernel
theorem dX11_table_318 : decode cX11_table 318 = .ok (.iload_n 2, 1) := by decide +kernel
theorem dX11_table_319 : decode cX11_table 319 = .ok (.iconst 2, 1) := by decide +kernel
theorem dX11_table_320 : decode cX11_table 320 = .ok (.if_icmp .ge 67, 3) := by decide +kernel
theorem dX11_table_323 : decode cX11_table 323 = .ok (.aload_n 0, 1) := by decide +kernel
theorem dX11_table_324 : decode cX11_table 324 = .ok (.getfield 33, 3) := by decide +kernel
theorem dX11_table_327 : decode cX11_table 327 = .ok (.sipush 427, 3) := by decide +kernel
theorem dX11_table_330 : decode cX11_table 330 = .ok (.iload_n 2, 1) := by decide +kernel
theorem dX11_table_331 : decode cX11_table 331 = .ok (.iadd, 1) := by decide +kernel
theorem dX11_table_332 : decode cX11_table 332 = .ok (.aload_n 0, 1) := by decide +kernel
theorem dX11_table_333 : decode cX11_table 333 = .ok (.getfield 93, 3) := by decide +kernel
theorem dX11_table_336 : decode cX11_table 336 = .ok (.iconst 3, 1) := by decide +kernel
theorem dX11_table_337 : decode cX11_table 337 = .ok (.iload_n 2, 1) := by decide +kernel
theorem dX11_table_338 : decode cX11_table 338 = .ok (.imul, 1) := by decide +kernel
theorem dX11_table_339 : decode cX11_table 339 = .ok (.iaload, 1) := by decide +kernel
theorem dX11_table_340 : decode cX11_table 340 = .ok (.iastore, 1) := by decide +kernel
theorem dX11_table_341 : decode cX11_table 341 = .ok (.aload_n 0, 1) := by decide +kernel
theorem dX11_table_342 : decode cX11_table 342 = .ok (.getfield 33, 3) := by decide +kernel
theorem dX11_table_345 : decode cX11_table 345 = .ok (.sipush 436, 3) := by decide +kernel
theorem dX11_table_348 : decode cX11_table 348 = .ok (.iload_n 2, 1) := by decide +kernel
theorem dX11_table_349 : decode cX11_table 349 = .ok (.iadd, 1) := by decide +kernel
theorem dX11_table_350 : decode cX11_table 350 = .ok (.aload_n 0, 1) := by decide +kernel
theorem dX11_table_351 : decode cX11_table 351 = .ok (.getfield 93, 3) := by decide +kernel
theorem dX11_table_354 : decode cX11_table 354 = .ok (.iconst 3, 1) := by decide +kernel
theorem dX11_table_355 : decode cX11_table 355 = .ok (.iload_n 2, 1) := by decide +kernel
theorem dX11_table_356 : decode cX11_table 356 = .ok (.imul, 1) := by decide +kernel
theorem dX11_table_357 : decode cX11_table 357 = .ok (.iconst 1, 1) := by decide +kernel
theorem dX11_table_358 : decode cX11_table 358 = .ok (.iadd, 1) := by decide +kernel
theorem dX11_table_359 : decode cX11_table 359 = .ok (.iaload, 1) := by decide +kernel
theorem dX11_table_360 : decode cX11_table 360 = .ok (.iastore, 1) := by decide +kernel
theorem dX11_table_361 : decode cX11_table 361 = .ok (.aload_n 0, 1) := by decide +kernel
theorem dX11_table_362 : decode cX11_table 362 = .ok (.getfield 33, 3) := by decide +kernel
theorem dX11_table_365 : decode cX11_table 365 = .ok (.sipush 445, 3) := by decide +kernel
theorem dX11_table_368 : decode cX11_table 368 = .ok (.iload_n 2, 1) := by decide +kernel
theorem dX11_table_369 : decode cX11_table 369 = .ok (.iadd, 1) := by decide +kernel
theorem dX11_table_370 : decode cX11_table 370 = .ok (.aload_n 0, 1) := by decide +kernel
theorem dX11_table_371 : decode cX11_table 371 = .ok (.getfield 93, 3) := by decide +kernel
theorem dX11_table_374 : decode cX11_table 374 = .ok (.iconst 3, 1) := by decide +kernel
theorem dX11_table_375 : decode cX11_table 375 = .ok (.iload_n 2, 1) := by decide +kernel
theorem dX11_table_376 : decode cX11_table 376 = .ok (.imul, 1) := by decide +kernel
theorem dX11_table_377 : decode cX11_table 377 = .ok (.iconst 2, 1) := by decide +kernel
theorem dX11_table_378 : decode cX11_table 378 = .ok (.iadd, 1) := by decide +kernel
theorem dX11_table_379 : decode cX11_table 379 = .ok (.iaload, 1) := by decide +kernel
theorem dX11_table_380 : decode cX11_table 380 = .ok (.iastore, 1) := by decide +kernel
theorem dX11_table_381 : decode cX11_table 381 = .ok (.iinc 2 1, 3) := by decide +kernel
theorem dX11_table_384 : decode cX11_table 384 = .ok (.goto (-66), 3) := by decide +kernel
theorem dX11_table_387 : decode cX11_table 387 = .ok (.aload_n 0, 1) := by decide +kernel
theorem dX11_table_388 : decode cX11_table 388 = .ok (.iload_n 1, 1) := by decide +kernel
theorem dX11_table_389 : decode cX11_table 389 = .ok (.putfield 374, 3) := by decide +kernel
theorem dX11_table_392 : decode cX11_table 392 = .ok (.iload_n 1, 1) := by decide +kernel
theorem dX11_table_393 : decode cX11_table 393 = .ok (.ireturn, 1) := by decide +kernel
