theorem dX5_marksOf_0 : decode cX5_marksOf 0 = .ok (.iconst 0, 1) := by decide +kernel
theorem dX5_marksOf_1 : decode cX5_marksOf 1 = .ok (.istore_n 2, 1) := by decide +kernel
theorem dX5_marksOf_2 : decode cX5_marksOf 2 = .ok (.iconst 0, 1) := by decide +kernel
theorem dX5_marksOf_3 : decode cX5_marksOf 3 = .ok (.istore_n 3, 1) := by decide +kernel
theorem dX5_marksOf_4 : decode cX5_marksOf 4 = .ok (.iload_n 3, 1) := by decide +kernel
theorem dX5_marksOf_5 : decode cX5_marksOf 5 = .ok (.aload_n 0, 1) := by decide +kernel
theorem dX5_marksOf_6 : decode cX5_marksOf 6 = .ok (.getfield 44, 3) := by decide +kernel
theorem dX5_marksOf_9 : decode cX5_marksOf 9 = .ok (.getfield 127, 3) := by decide +kernel
theorem dX5_marksOf_12 : decode cX5_marksOf 12 = .ok (.if_icmp .ge 40, 3) := by decide +kernel
theorem dX5_marksOf_15 : decode cX5_marksOf 15 = .ok (.aload_n 0, 1) := by decide +kernel
theorem dX5_marksOf_16 : decode cX5_marksOf 16 = .ok (.getfield 9, 3) := by decide +kernel
theorem dX5_marksOf_19 : decode cX5_marksOf 19 = .ok (.iload_n 1, 1) := by decide +kernel
theorem dX5_marksOf_20 : decode cX5_marksOf 20 = .ok (.bipush 80, 2) := by decide +kernel
theorem dX5_marksOf_22 : decode cX5_marksOf 22 = .ok (.imul, 1) := by decide +kernel
theorem dX5_marksOf_23 : decode cX5_marksOf 23 = .ok (.iload_n 3, 1) := by decide +kernel
theorem dX5_marksOf_24 : decode cX5_marksOf 24 = .ok (.iadd, 1) := by decide +kernel
theorem dX5_marksOf_25 : decode cX5_marksOf 25 = .ok (.iaload, 1) := by decide +kernel
theorem dX5_marksOf_26 : decode cX5_marksOf 26 = .ok (.istore 4, 2) := by decide +kernel
theorem dX5_marksOf_28 : decode cX5_marksOf 28 = .ok (.iload 4, 2) := by decide +kernel
theorem dX5_marksOf_30 : decode cX5_marksOf 30 = .ok (.iconst (-1), 1) := by decide +kernel
theorem dX5_marksOf_31 : decode cX5_marksOf 31 = .ok (.if_icmp .eq 15, 3) := by decide +kernel
theorem dX5_marksOf_34 : decode cX5_marksOf 34 = .ok (.iload_n 2, 1) := by decide +kernel
theorem dX5_marksOf_35 : decode cX5_marksOf 35 = .ok (.aload_n 0, 1) := by decide +kernel
theorem dX5_marksOf_36 : decode cX5_marksOf 36 = .ok (.getfield 15, 3) := by decide +kernel
theorem dX5_marksOf_39 : decode cX5_marksOf 39 = .ok (.iload 4, 2) := by decide +kernel
theorem dX5_marksOf_41 : decode cX5_marksOf 41 = .ok (.iaload, 1) := by decide +kernel
theorem dX5_marksOf_42 : decode cX5_marksOf 42 = .ok (.iconst 1, 1) := by decide +kernel
theorem dX5_marksOf_43 : decode cX5_marksOf 43 = .ok (.isub, 1) := by decide +kernel
theorem dX5_marksOf_44 : decode cX5_marksOf 44 = .ok (.iadd, 1) := by decide +kernel
theorem dX5_marksOf_45 : decode cX5_marksOf 45 = .ok (.istore_n 2, 1) := by decide +kernel
theorem dX5_marksOf_46 : decode cX5_marksOf 46 = .ok (.iinc 3 1, 3) := by decide +kernel
theorem dX5_marksOf_49 : decode cX5_marksOf 49 = .ok (.goto (-45), 3) := by decide +kernel
theorem dX5_marksOf_52 : decode cX5_marksOf 52 = .ok (.aload_n 0, 1) := by decide +kernel
theorem dX5_marksOf_53 : decode cX5_marksOf 53 = .ok (.getfield 21, 3) := by decide +kernel
theorem dX5_marksOf_56 : decode cX5_marksOf 56 = .ok (.iload_n 1, 1) := by decide +kernel
theorem dX5_marksOf_57 : decode cX5_marksOf 57 = .ok (.iaload, 1) := by decide +kernel
theorem dX5_marksOf_58 : decode cX5_marksOf 58 = .ok (.aload_n 0, 1) := by decide +kernel
theorem dX5_marksOf_59 : decode cX5_marksOf 59 = .ok (.getfield 18, 3) := by decide +kernel
theorem dX5_marksOf_62 : decode cX5_marksOf 62 = .ok (.iload_n 1, 1) := by decide +kernel
theorem dX5_marksOf_63 : decode cX5_marksOf 63 = .ok (.iaload, 1) := by decide +kernel
theorem dX5_marksOf_64 : decode cX5_marksOf 64 = .ok (.aload_n 0, 1) := by decide +kernel
theorem dX5_marksOf_65 : decode cX5_marksOf 65 = .ok (.getfield 36, 3) := by decide +kernel
theorem dX5_marksOf_68 : decode cX5_marksOf 68 = .ok (.getfield 132, 3) := by decide +kernel
theorem dX5_marksOf_71 : decode cX5_marksOf 71 = .ok (.iconst 2, 1) := by decide +kernel
theorem dX5_marksOf_72 : decode cX5_marksOf 72 = .ok (.iaload, 1) := by decide +kernel
theorem dX5_marksOf_73 : decode cX5_marksOf 73 = .ok (.iload_n 2, 1) := by decide +kernel
theorem dX5_marksOf_74 : decode cX5_marksOf 74 = .ok (.imul, 1) := by decide +kernel
theorem dX5_marksOf_75 : decode cX5_marksOf 75 = .ok (.iadd, 1) := by decide +kernel
theorem dX5_marksOf_76 : decode cX5_marksOf 76 = .ok (.imul, 1) := by decide +kernel
theorem dX5_marksOf_77 : decode cX5_marksOf 77 = .ok (.ireturn, 1) := by decide +kernel
theorem dX5_takeBack_0 : decode cX5_takeBack 0 = .ok (.iload_n 1, 1) := by decide +kernel
theorem dX5_takeBack_1 : decode cX5_takeBack 1 = .ok (.bipush 80, 2) := by decide +kernel
theorem dX5_takeBack_3 : decode cX5_takeBack 3 = .ok (.imul, 1) := by decide +kernel
theorem dX5_takeBack_4 : decode cX5_takeBack 4 = .ok (.istore_n 2, 1) := by decide +kernel
theorem dX5_takeBack_5 : decode cX5_takeBack 5 = .ok (.iload_n 2, 1) := by decide +kernel
theorem dX5_takeBack_6 : decode cX5_takeBack 6 = .ok (.iload_n 1, 1) := by decide +kernel
theorem dX5_takeBack_7 : decode cX5_takeBack 7 = .ok (.iconst 1, 1) := by decide +kernel
theorem dX5_takeBack_8 : decode cX5_takeBack 8 = .ok (.iadd, 1) := by decide +kernel
theorem dX5_takeBack_9 : decode cX5_takeBack 9 = .ok (.bipush 80, 2) := by decide +kernel
theorem dX5_takeBack_11 : decode cX5_takeBack 11 = .ok (.imul, 1) := by decide +kernel
theorem dX5_takeBack_12 : decode cX5_takeBack 12 = .ok (.if_icmp .ge 41, 3) := by decide +kernel
theorem dX5_takeBack_15 : decode cX5_takeBack 15 = .ok (.aload_n 0, 1) := by decide +kernel
theorem dX5_takeBack_16 : decode cX5_takeBack 16 = .ok (.getfield 9, 3) := by decide +kernel
theorem dX5_takeBack_19 : decode cX5_takeBack 19 = .ok (.iload_n 2, 1) := by decide +kernel
theorem dX5_takeBack_20 : decode cX5_takeBack 20 = .ok (.iaload, 1) := by decide +kernel
theorem dX5_takeBack_21 : decode cX5_takeBack 21 = .ok (.iconst (-1), 1) := by decide +kernel
theorem dX5_takeBack_22 : decode cX5_takeBack 22 = .ok (.if_icmp .eq 25, 3) := by decide +kernel
theorem dX5_takeBack_25 : decode cX5_takeBack 25 = .ok (.aload_n 0, 1) := by decide +kernel
theorem dX5_takeBack_26 : decode cX5_takeBack 26 = .ok (.getfield 15, 3) := by decide +kernel
theorem dX5_takeBack_29 : decode cX5_takeBack 29 = .ok (.aload_n 0, 1) := by decide +kernel
theorem dX5_takeBack_30 : decode cX5_takeBack 30 = .ok (.getfield 9, 3) := by decide +kernel
theorem dX5_takeBack_33 : decode cX5_takeBack 33 = .ok (.iload_n 2, 1) := by decide +kernel
theorem dX5_takeBack_34 : decode cX5_takeBack 34 = .ok (.iaload, 1) := by decide +kernel
theorem dX5_takeBack_35 : decode cX5_takeBack 35 = .ok (.dup2, 1) := by decide +kernel
theorem dX5_takeBack_36 : decode cX5_takeBack 36 = .ok (.iaload, 1) := by decide +kernel
theorem dX5_takeBack_37 : decode cX5_takeBack 37 = .ok (.iconst 1, 1) := by decide +kernel
theorem dX5_takeBack_38 : decode cX5_takeBack 38 = .ok (.isub, 1) := by decide +kernel
theorem dX5_takeBack_39 : decode cX5_takeBack 39 = .ok (.iastore, 1) := by decide +kernel
theorem dX5_takeBack_40 : decode cX5_takeBack 40 = .ok (.aload_n 0, 1) := by decide +kernel
theorem dX5_takeBack_41 : decode cX5_takeBack 41 = .ok (.getfield 9, 3) := by decide +kernel
theorem dX5_takeBack_44 : decode cX5_takeBack 44 = .ok (.iload_n 2, 1) := by decide +kernel
theorem dX5_takeBack_45 : decode cX5_takeBack 45 = .ok (.iconst (-1), 1) := by decide +kernel
theorem dX5_takeBack_46 : decode cX5_takeBack 46 = .ok (.iastore, 1) := by decide +kernel
theorem dX5_takeBack_47 : decode cX5_takeBack 47 = .ok (.iinc 2 1, 3) := by decide +kernel
theorem dX5_takeBack_50 : decode cX5_takeBack 50 = .ok (.goto (-45), 3) := by decide +kernel
theorem dX5_takeBack_53 : decode cX5_takeBack 53 = .ok (.return_, 1) := by decide +kernel
theorem dX5_play_0 : decode cX5_play 0 = .ok (.aload_n 0, 1) := by decide +kernel
theorem dX5_play_1 : decode cX5_play 1 = .ok (.iload_n 1, 1) := by decide +kernel
theorem dX5_play_2 : decode cX5_play 2 = .ok (.invokevirtual 135, 3) := by decide +kernel
theorem dX5_play_5 : decode cX5_play 5 = .ok (.aload_n 0, 1) := by decide +kernel
theorem dX5_play_6 : decode cX5_play 6 = .ok (.getfield 21, 3) := by decide +kernel
theorem dX5_play_9 : decode cX5_play 9 = .ok (.iload_n 1, 1) := by decide +kernel
theorem dX5_play_10 : decode cX5_play 10 = .ok (.aload_n 0, 1) := by decide +kernel
theorem dX5_play_11 : decode cX5_play 11 = .ok (.getfield 44, 3) := by decide +kernel
theorem dX5_play_14 : decode cX5_play 14 = .ok (.getfield 138, 3) := by decide +kernel
theorem dX5_play_17 : decode cX5_play 17 = .ok (.iload_n 2, 1) := by decide +kernel
theorem dX5_play_18 : decode cX5_play 18 = .ok (.iaload, 1) := by decide +kernel
theorem dX5_play_19 : decode cX5_play 19 = .ok (.iastore, 1) := by decide +kernel
theorem dX5_play_20 : decode cX5_play 20 = .ok (.aload_n 0, 1) := by decide +kernel
theorem dX5_play_21 : decode cX5_play 21 = .ok (.getfield 18, 3) := by decide +kernel
theorem dX5_play_24 : decode cX5_play 24 = .ok (.iload_n 1, 1) := by decide +kernel
theorem dX5_play_25 : decode cX5_play 25 = .ok (.iconst 0, 1) := by decide +kernel
theorem dX5_play_26 : decode cX5_play 26 = .ok (.iastore, 1) := by decide +kernel
theorem dX5_play_27 : decode cX5_play 27 = .ok (.aload_n 0, 1) := by decide +kernel
theorem dX5_play_28 : decode cX5_play 28 = .ok (.getfield 24, 3) := by decide +kernel
theorem dX5_play_31 : decode cX5_play 31 = .ok (.iconst 0, 1) := by decide +kernel
theorem dX5_play_32 : decode cX5_play 32 = .ok (.invokestatic 121, 3) := by decide +kernel
theorem dX5_play_35 : decode cX5_play 35 = .ok (.aload_n 0, 1) := by decide +kernel
theorem dX5_play_36 : decode cX5_play 36 = .ok (.getfield 36, 3) := by decide +kernel
theorem dX5_play_39 : decode cX5_play 39 = .ok (.getfield 141, 3) := by decide +kernel
theorem dX5_play_42 : decode cX5_play 42 = .ok (.iload_n 1, 1) := by decide +kernel
theorem dX5_play_43 : decode cX5_play 43 = .ok (.iaload, 1) := by decide +kernel
theorem dX5_play_44 : decode cX5_play 44 = .ok (.istore 6, 2) := by decide +kernel
theorem dX5_play_46 : decode cX5_play 46 = .ok (.iconst 0, 1) := by decide +kernel
theorem dX5_play_47 : decode cX5_play 47 = .ok (.istore 7, 2) := by decide +kernel
theorem dX5_play_49 : decode cX5_play 49 = .ok (.iconst 0, 1) := by decide +kernel
theorem dX5_play_50 : decode cX5_play 50 = .ok (.istore 8, 2) := by decide +kernel
theorem dX5_play_52 : decode cX5_play 52 = .ok (.iload 8, 2) := by decide +kernel
theorem dX5_play_54 : decode cX5_play 54 = .ok (.aload_n 0, 1) := by decide +kernel
theorem dX5_play_55 : decode cX5_play 55 = .ok (.getfield 44, 3) := by decide +kernel
theorem dX5_play_58 : decode cX5_play 58 = .ok (.getfield 127, 3) := by decide +kernel
theorem dX5_play_61 : decode cX5_play 61 = .ok (.if_icmp .ge 208, 3) := by decide +kernel
theorem dX5_play_64 : decode cX5_play 64 = .ok (.iload 6, 2) := by decide +kernel
theorem dX5_play_66 : decode cX5_play 66 = .ok (.ifCond .le 203, 3) := by decide +kernel
theorem dX5_play_69 : decode cX5_play 69 = .ok (.aload_n 0, 1) := by decide +kernel
theorem dX5_play_70 : decode cX5_play 70 = .ok (.getfield 44, 3) := by decide +kernel
theorem dX5_play_73 : decode cX5_play 73 = .ok (.iload_n 2, 1) := by decide +kernel
theorem dX5_play_74 : decode cX5_play 74 = .ok (.iload 8, 2) := by decide +kernel
theorem dX5_play_76 : decode cX5_play 76 = .ok (.iload_n 3, 1) := by decide +kernel
theorem dX5_play_77 : decode cX5_play 77 = .ok (.iload 4, 2) := by decide +kernel
theorem dX5_play_79 : decode cX5_play 79 = .ok (.aload_n 0, 1) := by decide +kernel
theorem dX5_play_80 : decode cX5_play 80 = .ok (.getfield 24, 3) := by decide +kernel
theorem dX5_play_83 : decode cX5_play 83 = .ok (.iconst 0, 1) := by decide +kernel
theorem dX5_play_84 : decode cX5_play 84 = .ok (.invokevirtual 144, 3) := by decide +kernel
theorem dX5_play_87 : decode cX5_play 87 = .ok (.istore 9, 2) := by decide +kernel
theorem dX5_play_89 : decode cX5_play 89 = .ok (.iload 9, 2) := by decide +kernel
theorem dX5_play_91 : decode cX5_play 91 = .ok (.iconst (-1), 1) := by decide +kernel
theorem dX5_play_92 : decode cX5_play 92 = .ok (.if_icmp .ne 7, 3) := by decide +kernel
theorem dX5_play_95 : decode cX5_play 95 = .ok (.iconst 0, 1) := by decide +kernel
theorem dX5_play_96 : decode cX5_play 96 = .ok (.goto 13, 3) := by decide +kernel
theorem dX5_play_99 : decode cX5_play 99 = .ok (.aload_n 0, 1) := by decide +kernel
theorem dX5_play_100 : decode cX5_play 100 = .ok (.getfield 44, 3) := by decide +kernel
theorem dX5_play_103 : decode cX5_play 103 = .ok (.getfield 148, 3) := by decide +kernel
theorem dX5_play_106 : decode cX5_play 106 = .ok (.iload 9, 2) := by decide +kernel
theorem dX5_play_108 : decode cX5_play 108 = .ok (.iaload, 1) := by decide +kernel
theorem dX5_play_109 : decode cX5_play 109 = .ok (.istore 10, 2) := by decide +kernel
theorem dX5_play_111 : decode cX5_play 111 = .ok (.aload_n 0, 1) := by decide +kernel
theorem dX5_play_112 : decode cX5_play 112 = .ok (.getfield 44, 3) := by decide +kernel
theorem dX5_play_115 : decode cX5_play 115 = .ok (.getfield 151, 3) := by decide +kernel
theorem dX5_play_118 : decode cX5_play 118 = .ok (.iload_n 2, 1) := by decide +kernel
theorem dX5_play_119 : decode cX5_play 119 = .ok (.bipush 20, 2) := by decide +kernel
theorem dX5_play_121 : decode cX5_play 121 = .ok (.imul, 1) := by decide +kernel
theorem dX5_play_122 : decode cX5_play 122 = .ok (.iload 10, 2) := by decide +kernel
theorem dX5_play_124 : decode cX5_play 124 = .ok (.iadd, 1) := by decide +kernel
theorem dX5_play_125 : decode cX5_play 125 = .ok (.iaload, 1) := by decide +kernel
theorem dX5_play_126 : decode cX5_play 126 = .ok (.istore 11, 2) := by decide +kernel
theorem dX5_play_128 : decode cX5_play 128 = .ok (.iload 9, 2) := by decide +kernel
theorem dX5_play_130 : decode cX5_play 130 = .ok (.iconst (-1), 1) := by decide +kernel
theorem dX5_play_131 : decode cX5_play 131 = .ok (.if_icmp .eq 132, 3) := by decide +kernel
theorem dX5_play_134 : decode cX5_play 134 = .ok (.aload_n 0, 1) := by decide +kernel
theorem dX5_play_135 : decode cX5_play 135 = .ok (.getfield 44, 3) := by decide +kernel
theorem dX5_play_138 : decode cX5_play 138 = .ok (.iload 10, 2) := by decide +kernel
theorem dX5_play_140 : decode cX5_play 140 = .ok (.iload 11, 2) := by decide +kernel
theorem dX5_play_142 : decode cX5_play 142 = .ok (.invokevirtual 154, 3) := by decide +kernel
theorem dX5_play_145 : decode cX5_play 145 = .ok (.ifCond .eq 6, 3) := by decide +kernel
theorem dX5_play_148 : decode cX5_play 148 = .ok (.goto 115, 3) := by decide +kernel
theorem dX5_play_151 : decode cX5_play 151 = .ok (.iload 5, 2) := by decide +kernel
theorem dX5_play_153 : decode cX5_play 153 = .ok (.iconst 1, 1) := by decide +kernel
theorem dX5_play_154 : decode cX5_play 154 = .ok (.if_icmp .ne 25, 3) := by decide +kernel
theorem dX5_play_157 : decode cX5_play 157 = .ok (.aload_n 0, 1) := by decide +kernel
theorem dX5_play_158 : decode cX5_play 158 = .ok (.getfield 44, 3) := by decide +kernel
theorem dX5_play_161 : decode cX5_play 161 = .ok (.getfield 157, 3) := by decide +kernel
theorem dX5_play_164 : decode cX5_play 164 = .ok (.iload 8, 2) := by decide +kernel
theorem dX5_play_166 : decode cX5_play 166 = .ok (.iaload, 1) := by decide +kernel
theorem dX5_play_167 : decode cX5_play 167 = .ok (.iconst 2, 1) := by decide +kernel
theorem dX5_play_168 : decode cX5_play 168 = .ok (.irem, 1) := by decide +kernel
theorem dX5_play_169 : decode cX5_play 169 = .ok (.iconst 1, 1) := by decide +kernel
theorem dX5_play_170 : decode cX5_play 170 = .ok (.if_icmp .ne 9, 3) := by decide +kernel
theorem dX5_play_173 : decode cX5_play 173 = .ok (.iconst 2, 1) := by decide +kernel
theorem dX5_play_174 : decode cX5_play 174 = .ok (.istore 7, 2) := by decide +kernel
theorem dX5_play_176 : decode cX5_play 176 = .ok (.goto 87, 3) := by decide +kernel
theorem dX5_play_179 : decode cX5_play 179 = .ok (.aload_n 0, 1) := by decide +kernel
theorem dX5_play_180 : decode cX5_play 180 = .ok (.getfield 18, 3) := by decide +kernel
theorem dX5_play_183 : decode cX5_play 183 = .ok (.iload_n 1, 1) := by decide +kernel
theorem dX5_play_184 : decode cX5_play 184 = .ok (.dup2, 1) := by decide +kernel
theorem dX5_play_185 : decode cX5_play 185 = .ok (.iaload, 1) := by decide +kernel
theorem dX5_play_186 : decode cX5_play 186 = .ok (.aload_n 0, 1) := by decide +kernel
theorem dX5_play_187 : decode cX5_play 187 = .ok (.getfield 36, 3) := by decide +kernel
theorem dX5_play_190 : decode cX5_play 190 = .ok (.aload_n 0, 1) := by decide +kernel
theorem dX5_play_191 : decode cX5_play 191 = .ok (.getfield 36, 3) := by decide +kernel
theorem dX5_play_194 : decode cX5_play 194 = .ok (.iload_n 1, 1) := by decide +kernel
theorem dX5_play_195 : decode cX5_play 195 = .ok (.iload 10, 2) := by decide +kernel
theorem dX5_play_197 : decode cX5_play 197 = .ok (.iload 11, 2) := by decide +kernel
theorem dX5_play_199 : decode cX5_play 199 = .ok (.iload 7, 2) := by decide +kernel
theorem dX5_play_201 : decode cX5_play 201 = .ok (.invokevirtual 160, 3) := by decide +kernel
theorem dX5_play_204 : decode cX5_play 204 = .ok (.iload 11, 2) := by decide +kernel
theorem dX5_play_206 : decode cX5_play 206 = .ok (.iconst 2, 1) := by decide +kernel
theorem dX5_play_207 : decode cX5_play 207 = .ok (.if_icmp .gt 7, 3) := by decide +kernel
theorem dX5_play_210 : decode cX5_play 210 = .ok (.iconst 1, 1) := by decide +kernel
theorem dX5_play_211 : decode cX5_play 211 = .ok (.goto 4, 3) := by decide +kernel
theorem dX5_play_214 : decode cX5_play 214 = .ok (.iconst 0, 1) := by decide +kernel
theorem dX5_play_215 : decode cX5_play 215 = .ok (.iconst 0, 1) := by decide +kernel
theorem dX5_play_216 : decode cX5_play 216 = .ok (.invokevirtual 164, 3) := by decide +kernel
theorem dX5_play_219 : decode cX5_play 219 = .ok (.iadd, 1) := by decide +kernel
theorem dX5_play_220 : decode cX5_play 220 = .ok (.iastore, 1) := by decide +kernel
theorem dX5_play_221 : decode cX5_play 221 = .ok (.iconst 0, 1) := by decide +kernel
theorem dX5_play_222 : decode cX5_play 222 = .ok (.istore 7, 2) := by decide +kernel
theorem dX5_play_224 : decode cX5_play 224 = .ok (.iinc 6 (-1), 3) := by decide +kernel
theorem dX5_play_227 : decode cX5_play 227 = .ok (.aload_n 0, 1) := by decide +kernel
theorem dX5_play_228 : decode cX5_play 228 = .ok (.getfield 24, 3) := by decide +kernel
theorem dX5_play_231 : decode cX5_play 231 = .ok (.iload 10, 2) := by decide +kernel
theorem dX5_play_233 : decode cX5_play 233 = .ok (.dup2, 1) := by decide +kernel
theorem dX5_play_234 : decode cX5_play 234 = .ok (.iaload, 1) := by decide +kernel
theorem dX5_play_235 : decode cX5_play 235 = .ok (.iconst 1, 1) := by decide +kernel
theorem dX5_play_236 : decode cX5_play 236 = .ok (.iadd, 1) := by decide +kernel
theorem dX5_play_237 : decode cX5_play 237 = .ok (.iastore, 1) := by decide +kernel
theorem dX5_play_238 : decode cX5_play 238 = .ok (.aload_n 0, 1) := by decide +kernel
theorem dX5_play_239 : decode cX5_play 239 = .ok (.getfield 9, 3) := by decide +kernel
theorem dX5_play_242 : decode cX5_play 242 = .ok (.iload_n 1, 1) := by decide +kernel
theorem dX5_play_243 : decode cX5_play 243 = .ok (.bipush 80, 2) := by decide +kernel
theorem dX5_play_245 : decode cX5_play 245 = .ok (.imul, 1) := by decide +kernel
theorem dX5_play_246 : decode cX5_play 246 = .ok (.iload 8, 2) := by decide +kernel
theorem dX5_play_248 : decode cX5_play 248 = .ok (.iadd, 1) := by decide +kernel
theorem dX5_play_249 : decode cX5_play 249 = .ok (.iload 9, 2) := by decide +kernel
theorem dX5_play_251 : decode cX5_play 251 = .ok (.iastore, 1) := by decide +kernel
theorem dX5_play_252 : decode cX5_play 252 = .ok (.aload_n 0, 1) := by decide +kernel
theorem dX5_play_253 : decode cX5_play 253 = .ok (.getfield 15, 3) := by decide +kernel
theorem dX5_play_256 : decode cX5_play 256 = .ok (.iload 9, 2) := by decide +kernel
theorem dX5_play_258 : decode cX5_play 258 = .ok (.dup2, 1) := by decide +kernel
theorem dX5_play_259 : decode cX5_play 259 = .ok (.iaload, 1) := by decide +kernel
theorem dX5_play_260 : decode cX5_play 260 = .ok (.iconst 1, 1) := by decide +kernel
theorem dX5_play_261 : decode cX5_play 261 = .ok (.iadd, 1) := by decide +kernel
theorem dX5_play_262 : decode cX5_play 262 = .ok (.iastore, 1) := by decide +kernel
theorem dX5_play_263 : decode cX5_play 263 = .ok (.iinc 8 1, 3) := by decide +kernel
theorem dX5_play_266 : decode cX5_play 266 = .ok (.goto (-214), 3) := by decide +kernel
theorem dX5_play_269 : decode cX5_play 269 = .ok (.return_, 1) := by decide +kernel
theorem dX5_standAt_0 : decode cX5_standAt 0 = .ok (.aload_n 0, 1) := by decide +kernel
theorem dX5_standAt_1 : decode cX5_standAt 1 = .ok (.iload_n 1, 1) := by decide +kernel
theorem dX5_standAt_2 : decode cX5_standAt 2 = .ok (.iload_n 2, 1) := by decide +kernel
theorem dX5_standAt_3 : decode cX5_standAt 3 = .ok (.iconst 1, 1) := by decide +kernel
theorem dX5_standAt_4 : decode cX5_standAt 4 = .ok (.if_icmp .ne 10, 3) := by decide +kernel
theorem dX5_standAt_7 : decode cX5_standAt 7 = .ok (.bipush 9, 2) := by decide +kernel
theorem dX5_standAt_9 : decode cX5_standAt 9 = .ok (.iload_n 1, 1) := by decide +kernel
theorem dX5_standAt_10 : decode cX5_standAt 10 = .ok (.iadd, 1) := by decide +kernel
theorem dX5_standAt_11 : decode cX5_standAt 11 = .ok (.goto 4, 3) := by decide +kernel
theorem dX5_standAt_14 : decode cX5_standAt 14 = .ok (.iload_n 1, 1) := by decide +kernel
theorem dX5_standAt_15 : decode cX5_standAt 15 = .ok (.aload_n 0, 1) := by decide +kernel
theorem dX5_standAt_16 : decode cX5_standAt 16 = .ok (.getfield 40, 3) := by decide +kernel
theorem dX5_standAt_19 : decode cX5_standAt 19 = .ok (.getfield 64, 3) := by decide +kernel
theorem dX5_standAt_22 : decode cX5_standAt 22 = .ok (.iload_n 1, 1) := by decide +kernel
theorem dX5_standAt_23 : decode cX5_standAt 23 = .ok (.iaload, 1) := by decide +kernel
theorem dX5_standAt_24 : decode cX5_standAt 24 = .ok (.aload_n 0, 1) := by decide +kernel
theorem dX5_standAt_25 : decode cX5_standAt 25 = .ok (.getfield 40, 3) := by decide +kernel
theorem dX5_standAt_28 : decode cX5_standAt 28 = .ok (.getfield 67, 3) := by decide +kernel
theorem dX5_standAt_31 : decode cX5_standAt 31 = .ok (.iload_n 1, 1) := by decide +kernel
theorem dX5_standAt_32 : decode cX5_standAt 32 = .ok (.iaload, 1) := by decide +kernel
theorem dX5_standAt_33 : decode cX5_standAt 33 = .ok (.aload_n 0, 1) := by decide +kernel
theorem dX5_standAt_34 : decode cX5_standAt 34 = .ok (.getfield 40, 3) := by decide +kernel
theorem dX5_standAt_37 : decode cX5_standAt 37 = .ok (.getfield 55, 3) := by decide +kernel
theorem dX5_standAt_40 : decode cX5_standAt 40 = .ok (.iload_n 1, 1) := by decide +kernel
theorem dX5_standAt_41 : decode cX5_standAt 41 = .ok (.iaload, 1) := by decide +kernel
theorem dX5_standAt_42 : decode cX5_standAt 42 = .ok (.invokevirtual 60, 3) := by decide +kernel
theorem dX5_standAt_45 : decode cX5_standAt 45 = .ok (.return_, 1) := by decide +kernel
theorem dX5_playAll_0 : decode cX5_playAll 0 = .ok (.aload_n 0, 1) := by decide +kernel
theorem dX5_playAll_1 : decode cX5_playAll 1 = .ok (.getfield 9, 3) := by decide +kernel
theorem dX5_playAll_4 : decode cX5_playAll 4 = .ok (.iconst (-1), 1) := by decide +kernel
theorem dX5_playAll_5 : decode cX5_playAll 5 = .ok (.invokestatic 121, 3) := by decide +kernel
theorem dX5_playAll_8 : decode cX5_playAll 8 = .ok (.aload_n 0, 1) := by decide +kernel
theorem dX5_playAll_9 : decode cX5_playAll 9 = .ok (.getfield 15, 3) := by decide +kernel
theorem dX5_playAll_12 : decode cX5_playAll 12 = .ok (.iconst 0, 1) := by decide +kernel
theorem dX5_playAll_13 : decode cX5_playAll 13 = .ok (.invokestatic 121, 3) := by decide +kernel
theorem dX5_playAll_16 : decode cX5_playAll 16 = .ok (.iconst 0, 1) := by decide +kernel
theorem dX5_playAll_17 : decode cX5_playAll 17 = .ok (.istore_n 1, 1) := by decide +kernel
theorem dX5_playAll_18 : decode cX5_playAll 18 = .ok (.iload_n 1, 1) := by decide +kernel
theorem dX5_playAll_19 : decode cX5_playAll 19 = .ok (.aload_n 0, 1) := by decide +kernel
theorem dX5_playAll_20 : decode cX5_playAll 20 = .ok (.getfield 36, 3) := by decide +kernel
theorem dX5_playAll_23 : decode cX5_playAll 23 = .ok (.getfield 70, 3) := by decide +kernel
theorem dX5_playAll_26 : decode cX5_playAll 26 = .ok (.if_icmp .ge 15, 3) := by decide +kernel
theorem dX5_playAll_29 : decode cX5_playAll 29 = .ok (.aload_n 0, 1) := by decide +kernel
theorem dX5_playAll_30 : decode cX5_playAll 30 = .ok (.iload_n 1, 1) := by decide +kernel
theorem dX5_playAll_31 : decode cX5_playAll 31 = .ok (.iconst 0, 1) := by decide +kernel
theorem dX5_playAll_32 : decode cX5_playAll 32 = .ok (.invokevirtual 79, 3) := by decide +kernel
theorem dX5_playAll_35 : decode cX5_playAll 35 = .ok (.iinc 1 1, 3) := by decide +kernel
theorem dX5_playAll_38 : decode cX5_playAll 38 = .ok (.goto (-20), 3) := by decide +kernel
theorem dX5_playAll_41 : decode cX5_playAll 41 = .ok (.return_, 1) := by decide +kernel
theorem dX5_marksAsTold_0 : decode cX5_marksAsTold 0 = .ok (.aload_n 0, 1) := by decide +kernel
theorem dX5_marksAsTold_1 : decode cX5_marksAsTold 1 = .ok (.invokevirtual 48, 3) := by decide +kernel
theorem dX5_marksAsTold_4 : decode cX5_marksAsTold 4 = .ok (.aload_n 0, 1) := by decide +kernel
theorem dX5_marksAsTold_5 : decode cX5_marksAsTold 5 = .ok (.iload_n 1, 1) := by decide +kernel
theorem dX5_marksAsTold_6 : decode cX5_marksAsTold 6 = .ok (.invokevirtual 51, 3) := by decide +kernel
theorem dX5_marksAsTold_9 : decode cX5_marksAsTold 9 = .ok (.ireturn, 1) := by decide +kernel
theorem dX5_marksWith_0 : decode cX5_marksWith 0 = .ok (.aload_n 0, 1) := by decide +kernel
theorem dX5_marksWith_1 : decode cX5_marksWith 1 = .ok (.invokevirtual 48, 3) := by decide +kernel
theorem dX5_marksWith_4 : decode cX5_marksWith 4 = .ok (.aload_n 0, 1) := by decide +kernel
theorem dX5_marksWith_5 : decode cX5_marksWith 5 = .ok (.iload_n 1, 1) := by decide +kernel
theorem dX5_marksWith_6 : decode cX5_marksWith 6 = .ok (.iload_n 1, 1) := by decide +kernel
theorem dX5_marksWith_7 : decode cX5_marksWith 7 = .ok (.iload_n 2, 1) := by decide +kernel
theorem dX5_marksWith_8 : decode cX5_marksWith 8 = .ok (.iload_n 3, 1) := by decide +kernel
theorem dX5_marksWith_9 : decode cX5_marksWith 9 = .ok (.aload_n 0, 1) := by decide +kernel
theorem dX5_marksWith_10 : decode cX5_marksWith 10 = .ok (.getfield 40, 3) := by decide +kernel
theorem dX5_marksWith_13 : decode cX5_marksWith 13 = .ok (.getfield 55, 3) := by decide +kernel
theorem dX5_marksWith_16 : decode cX5_marksWith 16 = .ok (.iload_n 1, 1) := by decide +kernel
theorem dX5_marksWith_17 : decode cX5_marksWith 17 = .ok (.iaload, 1) := by decide +kernel
theorem dX5_marksWith_18 : decode cX5_marksWith 18 = .ok (.invokevirtual 60, 3) := by decide +kernel
theorem dX5_marksWith_21 : decode cX5_marksWith 21 = .ok (.aload_n 0, 1) := by decide +kernel
theorem dX5_marksWith_22 : decode cX5_marksWith 22 = .ok (.iload_n 1, 1) := by decide +kernel
theorem dX5_marksWith_23 : decode cX5_marksWith 23 = .ok (.invokevirtual 51, 3) := by decide +kernel
theorem dX5_marksWith_26 : decode cX5_marksWith 26 = .ok (.ireturn, 1) := by decide +kernel
theorem dX5_bestPlan_0 : decode cX5_bestPlan 0 = .ok (.iconst 0, 1) := by decide +kernel
theorem dX5_bestPlan_1 : decode cX5_bestPlan 1 = .ok (.istore_n 2, 1) := by decide +kernel
theorem dX5_bestPlan_2 : decode cX5_bestPlan 2 = .ok (.iconst 0, 1) := by decide +kernel
theorem dX5_bestPlan_3 : decode cX5_bestPlan 3 = .ok (.istore_n 3, 1) := by decide +kernel
theorem dX5_bestPlan_4 : decode cX5_bestPlan 4 = .ok (.aload_n 0, 1) := by decide +kernel
theorem dX5_bestPlan_5 : decode cX5_bestPlan 5 = .ok (.invokevirtual 48, 3) := by decide +kernel
theorem dX5_bestPlan_8 : decode cX5_bestPlan 8 = .ok (.iconst 0, 1) := by decide +kernel
theorem dX5_bestPlan_9 : decode cX5_bestPlan 9 = .ok (.istore 4, 2) := by decide +kernel
theorem dX5_bestPlan_11 : decode cX5_bestPlan 11 = .ok (.iload 4, 2) := by decide +kernel
theorem dX5_bestPlan_13 : decode cX5_bestPlan 13 = .ok (.bipush 20, 2) := by decide +kernel
theorem dX5_bestPlan_15 : decode cX5_bestPlan 15 = .ok (.if_icmp .gt 69, 3) := by decide +kernel
theorem dX5_bestPlan_18 : decode cX5_bestPlan 18 = .ok (.iconst 0, 1) := by decide +kernel
theorem dX5_bestPlan_19 : decode cX5_bestPlan 19 = .ok (.istore 5, 2) := by decide +kernel
theorem dX5_bestPlan_21 : decode cX5_bestPlan 21 = .ok (.iload 5, 2) := by decide +kernel
theorem dX5_bestPlan_23 : decode cX5_bestPlan 23 = .ok (.bipush 12, 2) := by decide +kernel
theorem dX5_bestPlan_25 : decode cX5_bestPlan 25 = .ok (.if_icmp .gt 53, 3) := by decide +kernel
theorem dX5_bestPlan_28 : decode cX5_bestPlan 28 = .ok (.aload_n 0, 1) := by decide +kernel
theorem dX5_bestPlan_29 : decode cX5_bestPlan 29 = .ok (.iload_n 1, 1) := by decide +kernel
theorem dX5_bestPlan_30 : decode cX5_bestPlan 30 = .ok (.iload_n 1, 1) := by decide +kernel
theorem dX5_bestPlan_31 : decode cX5_bestPlan 31 = .ok (.iload 5, 2) := by decide +kernel
theorem dX5_bestPlan_33 : decode cX5_bestPlan 33 = .ok (.iload 4, 2) := by decide +kernel
theorem dX5_bestPlan_35 : decode cX5_bestPlan 35 = .ok (.aload_n 0, 1) := by decide +kernel
theorem dX5_bestPlan_36 : decode cX5_bestPlan 36 = .ok (.getfield 40, 3) := by decide +kernel
theorem dX5_bestPlan_39 : decode cX5_bestPlan 39 = .ok (.getfield 55, 3) := by decide +kernel
theorem dX5_bestPlan_42 : decode cX5_bestPlan 42 = .ok (.iload_n 1, 1) := by decide +kernel
theorem dX5_bestPlan_43 : decode cX5_bestPlan 43 = .ok (.iaload, 1) := by decide +kernel
theorem dX5_bestPlan_44 : decode cX5_bestPlan 44 = .ok (.invokevirtual 60, 3) := by decide +kernel
theorem dX5_bestPlan_47 : decode cX5_bestPlan 47 = .ok (.aload_n 0, 1) := by decide +kernel
theorem dX5_bestPlan_48 : decode cX5_bestPlan 48 = .ok (.iload_n 1, 1) := by decide +kernel
theorem dX5_bestPlan_49 : decode cX5_bestPlan 49 = .ok (.invokevirtual 51, 3) := by decide +kernel
theorem dX5_bestPlan_52 : decode cX5_bestPlan 52 = .ok (.istore 6, 2) := by decide +kernel
theorem dX5_bestPlan_54 : decode cX5_bestPlan 54 = .ok (.iload 6, 2) := by decide +kernel
theorem dX5_bestPlan_56 : decode cX5_bestPlan 56 = .ok (.iload_n 3, 1) := by decide +kernel
theorem dX5_bestPlan_57 : decode cX5_bestPlan 57 = .ok (.if_icmp .le 15, 3) := by decide +kernel
theorem dX5_bestPlan_60 : decode cX5_bestPlan 60 = .ok (.iload 6, 2) := by decide +kernel
theorem dX5_bestPlan_62 : decode cX5_bestPlan 62 = .ok (.istore_n 3, 1) := by decide +kernel
theorem dX5_bestPlan_63 : decode cX5_bestPlan 63 = .ok (.bipush 100, 2) := by decide +kernel
theorem dX5_bestPlan_65 : decode cX5_bestPlan 65 = .ok (.iload 5, 2) := by decide +kernel
theorem dX5_bestPlan_67 : decode cX5_bestPlan 67 = .ok (.imul, 1) := by decide +kernel
theorem dX5_bestPlan_68 : decode cX5_bestPlan 68 = .ok (.iload 4, 2) := by decide +kernel
theorem dX5_bestPlan_70 : decode cX5_bestPlan 70 = .ok (.iadd, 1) := by decide +kernel
theorem dX5_bestPlan_71 : decode cX5_bestPlan 71 = .ok (.istore_n 2, 1) := by decide +kernel
theorem dX5_bestPlan_72 : decode cX5_bestPlan 72 = .ok (.iinc 5 1, 3) := by decide +kernel
theorem dX5_bestPlan_75 : decode cX5_bestPlan 75 = .ok (.goto (-54), 3) := by decide +kernel
theorem dX5_bestPlan_78 : decode cX5_bestPlan 78 = .ok (.iinc 4 1, 3) := by decide +kernel
theorem dX5_bestPlan_81 : decode cX5_bestPlan 81 = .ok (.goto (-70), 3) := by decide +kernel
theorem dX5_bestPlan_84 : decode cX5_bestPlan 84 = .ok (.iload_n 2, 1) := by decide +kernel
theorem dX5_bestPlan_85 : decode cX5_bestPlan 85 = .ok (.ireturn, 1) := by decide +kernel
theorem dX5_gainByJoining_0 : decode cX5_gainByJoining 0 = .ok (.aload_n 0, 1) := by decide +kernel
theorem dX5_gainByJoining_1 : decode cX5_gainByJoining 1 = .ok (.invokevirtual 48, 3) := by decide +kernel
theorem dX5_gainByJoining_4 : decode cX5_gainByJoining 4 = .ok (.aload_n 0, 1) := by decide +kernel
theorem dX5_gainByJoining_5 : decode cX5_gainByJoining 5 = .ok (.iload_n 1, 1) := by decide +kernel
theorem dX5_gainByJoining_6 : decode cX5_gainByJoining 6 = .ok (.invokevirtual 51, 3) := by decide +kernel
theorem dX5_gainByJoining_9 : decode cX5_gainByJoining 9 = .ok (.aload_n 0, 1) := by decide +kernel
theorem dX5_gainByJoining_10 : decode cX5_gainByJoining 10 = .ok (.iload_n 2, 1) := by decide +kernel
theorem dX5_gainByJoining_11 : decode cX5_gainByJoining 11 = .ok (.invokevirtual 51, 3) := by decide +kernel
theorem dX5_gainByJoining_14 : decode cX5_gainByJoining 14 = .ok (.iadd, 1) := by decide +kernel
theorem dX5_gainByJoining_15 : decode cX5_gainByJoining 15 = .ok (.istore_n 3, 1) := by decide +kernel
theorem dX5_gainByJoining_16 : decode cX5_gainByJoining 16 = .ok (.aload_n 0, 1) := by decide +kernel
theorem dX5_gainByJoining_17 : decode cX5_gainByJoining 17 = .ok (.iload_n 1, 1) := by decide +kernel
theorem dX5_gainByJoining_18 : decode cX5_gainByJoining 18 = .ok (.iload_n 1, 1) := by decide +kernel
theorem dX5_gainByJoining_19 : decode cX5_gainByJoining 19 = .ok (.aload_n 0, 1) := by decide +kernel
theorem dX5_gainByJoining_20 : decode cX5_gainByJoining 20 = .ok (.getfield 40, 3) := by decide +kernel
theorem dX5_gainByJoining_23 : decode cX5_gainByJoining 23 = .ok (.getfield 64, 3) := by decide +kernel
theorem dX5_gainByJoining_26 : decode cX5_gainByJoining 26 = .ok (.iload_n 2, 1) := by decide +kernel
theorem dX5_gainByJoining_27 : decode cX5_gainByJoining 27 = .ok (.iaload, 1) := by decide +kernel
theorem dX5_gainByJoining_28 : decode cX5_gainByJoining 28 = .ok (.aload_n 0, 1) := by decide +kernel
theorem dX5_gainByJoining_29 : decode cX5_gainByJoining 29 = .ok (.getfield 40, 3) := by decide +kernel
theorem dX5_gainByJoining_32 : decode cX5_gainByJoining 32 = .ok (.getfield 67, 3) := by decide +kernel
theorem dX5_gainByJoining_35 : decode cX5_gainByJoining 35 = .ok (.iload_n 2, 1) := by decide +kernel
theorem dX5_gainByJoining_36 : decode cX5_gainByJoining 36 = .ok (.iaload, 1) := by decide +kernel
theorem dX5_gainByJoining_37 : decode cX5_gainByJoining 37 = .ok (.aload_n 0, 1) := by decide +kernel
theorem dX5_gainByJoining_38 : decode cX5_gainByJoining 38 = .ok (.getfield 40, 3) := by decide +kernel
theorem dX5_gainByJoining_41 : decode cX5_gainByJoining 41 = .ok (.getfield 55, 3) := by decide +kernel
theorem dX5_gainByJoining_44 : decode cX5_gainByJoining 44 = .ok (.iload_n 2, 1) := by decide +kernel
theorem dX5_gainByJoining_45 : decode cX5_gainByJoining 45 = .ok (.iaload, 1) := by decide +kernel
theorem dX5_gainByJoining_46 : decode cX5_gainByJoining 46 = .ok (.invokevirtual 60, 3) := by decide +kernel
theorem dX5_gainByJoining_49 : decode cX5_gainByJoining 49 = .ok (.aload_n 0, 1) := by decide +kernel
theorem dX5_gainByJoining_50 : decode cX5_gainByJoining 50 = .ok (.iload_n 1, 1) := by decide +kernel
theorem dX5_gainByJoining_51 : decode cX5_gainByJoining 51 = .ok (.invokevirtual 51, 3) := by decide +kernel
theorem dX5_gainByJoining_54 : decode cX5_gainByJoining 54 = .ok (.aload_n 0, 1) := by decide +kernel
theorem dX5_gainByJoining_55 : decode cX5_gainByJoining 55 = .ok (.iload_n 2, 1) := by decide +kernel
theorem dX5_gainByJoining_56 : decode cX5_gainByJoining 56 = .ok (.invokevirtual 51, 3) := by decide +kernel
theorem dX5_gainByJoining_59 : decode cX5_gainByJoining 59 = .ok (.iadd, 1) := by decide +kernel
theorem dX5_gainByJoining_60 : decode cX5_gainByJoining 60 = .ok (.iload_n 3, 1) := by decide +kernel
theorem dX5_gainByJoining_61 : decode cX5_gainByJoining 61 = .ok (.isub, 1) := by decide +kernel
theorem dX5_gainByJoining_62 : decode cX5_gainByJoining 62 = .ok (.ireturn, 1) := by decide +kernel
theorem dX5_haveSpots_0 : decode cX5_haveSpots 0 = .ok (.iload_n 1, 1) := by decide +kernel
theorem dX5_haveSpots_1 : decode cX5_haveSpots 1 = .ok (.ifCond .lt 15, 3) := by decide +kernel
theorem dX5_haveSpots_4 : decode cX5_haveSpots 4 = .ok (.iload_n 1, 1) := by decide +kernel
theorem dX5_haveSpots_5 : decode cX5_haveSpots 5 = .ok (.aload_n 0, 1) := by decide +kernel
theorem dX5_haveSpots_6 : decode cX5_haveSpots 6 = .ok (.getfield 36, 3) := by decide +kernel
theorem dX5_haveSpots_9 : decode cX5_haveSpots 9 = .ok (.getfield 70, 3) := by decide +kernel
theorem dX5_haveSpots_12 : decode cX5_haveSpots 12 = .ok (.ishr, 1) := by decide +kernel
theorem dX5_haveSpots_13 : decode cX5_haveSpots 13 = .ok (.ifCond .eq 5, 3) := by decide +kernel
theorem dX5_haveSpots_16 : decode cX5_haveSpots 16 = .ok (.iconst 0, 1) := by decide +kernel
theorem dX5_haveSpots_17 : decode cX5_haveSpots 17 = .ok (.ireturn, 1) := by decide +kernel
theorem dX5_haveSpots_18 : decode cX5_haveSpots 18 = .ok (.iconst 0, 1) := by decide +kernel
theorem dX5_haveSpots_19 : decode cX5_haveSpots 19 = .ok (.istore_n 2, 1) := by decide +kernel
theorem dX5_haveSpots_20 : decode cX5_haveSpots 20 = .ok (.iload_n 2, 1) := by decide +kernel
theorem dX5_haveSpots_21 : decode cX5_haveSpots 21 = .ok (.aload_n 0, 1) := by decide +kernel
theorem dX5_haveSpots_22 : decode cX5_haveSpots 22 = .ok (.getfield 36, 3) := by decide +kernel
theorem dX5_haveSpots_25 : decode cX5_haveSpots 25 = .ok (.getfield 70, 3) := by decide +kernel
theorem dX5_haveSpots_28 : decode cX5_haveSpots 28 = .ok (.if_icmp .ge 32, 3) := by decide +kernel
theorem dX5_haveSpots_31 : decode cX5_haveSpots 31 = .ok (.iload_n 1, 1) := by decide +kernel
theorem dX5_haveSpots_32 : decode cX5_haveSpots 32 = .ok (.iload_n 2, 1) := by decide +kernel
theorem dX5_haveSpots_33 : decode cX5_haveSpots 33 = .ok (.ishr, 1) := by decide +kernel
theorem dX5_haveSpots_34 : decode cX5_haveSpots 34 = .ok (.iconst 1, 1) := by decide +kernel
theorem dX5_haveSpots_35 : decode cX5_haveSpots 35 = .ok (.iand, 1) := by decide +kernel
theorem dX5_haveSpots_36 : decode cX5_haveSpots 36 = .ok (.ifCond .eq 18, 3) := by decide +kernel
theorem dX5_haveSpots_39 : decode cX5_haveSpots 39 = .ok (.aload_n 0, 1) := by decide +kernel
theorem dX5_haveSpots_40 : decode cX5_haveSpots 40 = .ok (.getfield 36, 3) := by decide +kernel
theorem dX5_haveSpots_43 : decode cX5_haveSpots 43 = .ok (.getfield 76, 3) := by decide +kernel
theorem dX5_haveSpots_46 : decode cX5_haveSpots 46 = .ok (.iload_n 2, 1) := by decide +kernel
theorem dX5_haveSpots_47 : decode cX5_haveSpots 47 = .ok (.iaload, 1) := by decide +kernel
theorem dX5_haveSpots_48 : decode cX5_haveSpots 48 = .ok (.iconst (-1), 1) := by decide +kernel
theorem dX5_haveSpots_49 : decode cX5_haveSpots 49 = .ok (.if_icmp .ne 5, 3) := by decide +kernel
theorem dX5_haveSpots_52 : decode cX5_haveSpots 52 = .ok (.iconst 0, 1) := by decide +kernel
theorem dX5_haveSpots_53 : decode cX5_haveSpots 53 = .ok (.ireturn, 1) := by decide +kernel
theorem dX5_haveSpots_54 : decode cX5_haveSpots 54 = .ok (.iinc 2 1, 3) := by decide +kernel
theorem dX5_haveSpots_57 : decode cX5_haveSpots 57 = .ok (.goto (-37), 3) := by decide +kernel
theorem dX5_haveSpots_60 : decode cX5_haveSpots 60 = .ok (.iconst 1, 1) := by decide +kernel
theorem dX5_haveSpots_61 : decode cX5_haveSpots 61 = .ok (.ireturn, 1) := by decide +kernel
theorem dX5_marksStanding_0 : decode cX5_marksStanding 0 = .ok (.aload_n 0, 1) := by decide +kernel
theorem dX5_marksStanding_1 : decode cX5_marksStanding 1 = .ok (.invokevirtual 48, 3) := by decide +kernel
theorem dX5_marksStanding_4 : decode cX5_marksStanding 4 = .ok (.iconst 0, 1) := by decide +kernel
theorem dX5_marksStanding_5 : decode cX5_marksStanding 5 = .ok (.istore_n 3, 1) := by decide +kernel
theorem dX5_marksStanding_6 : decode cX5_marksStanding 6 = .ok (.iload_n 3, 1) := by decide +kernel
theorem dX5_marksStanding_7 : decode cX5_marksStanding 7 = .ok (.aload_n 0, 1) := by decide +kernel
theorem dX5_marksStanding_8 : decode cX5_marksStanding 8 = .ok (.getfield 36, 3) := by decide +kernel
theorem dX5_marksStanding_11 : decode cX5_marksStanding 11 = .ok (.getfield 70, 3) := by decide +kernel
theorem dX5_marksStanding_14 : decode cX5_marksStanding 14 = .ok (.if_icmp .ge 19, 3) := by decide +kernel
theorem dX5_marksStanding_17 : decode cX5_marksStanding 17 = .ok (.aload_n 0, 1) := by decide +kernel
theorem dX5_marksStanding_18 : decode cX5_marksStanding 18 = .ok (.iload_n 3, 1) := by decide +kernel
theorem dX5_marksStanding_19 : decode cX5_marksStanding 19 = .ok (.iload_n 2, 1) := by decide +kernel
theorem dX5_marksStanding_20 : decode cX5_marksStanding 20 = .ok (.iload_n 3, 1) := by decide +kernel
theorem dX5_marksStanding_21 : decode cX5_marksStanding 21 = .ok (.ishr, 1) := by decide +kernel
theorem dX5_marksStanding_22 : decode cX5_marksStanding 22 = .ok (.iconst 1, 1) := by decide +kernel
theorem dX5_marksStanding_23 : decode cX5_marksStanding 23 = .ok (.iand, 1) := by decide +kernel
theorem dX5_marksStanding_24 : decode cX5_marksStanding 24 = .ok (.invokevirtual 79, 3) := by decide +kernel
theorem dX5_marksStanding_27 : decode cX5_marksStanding 27 = .ok (.iinc 3 1, 3) := by decide +kernel
theorem dX5_marksStanding_30 : decode cX5_marksStanding 30 = .ok (.goto (-24), 3) := by decide +kernel
theorem dX5_marksStanding_33 : decode cX5_marksStanding 33 = .ok (.aload_n 0, 1) := by decide +kernel
theorem dX5_marksStanding_34 : decode cX5_marksStanding 34 = .ok (.iload_n 1, 1) := by decide +kernel
theorem dX5_marksStanding_35 : decode cX5_marksStanding 35 = .ok (.invokevirtual 51, 3) := by decide +kernel
theorem dX5_marksStanding_38 : decode cX5_marksStanding 38 = .ok (.ireturn, 1) := by decide +kernel
theorem dX5_fillHas_0 : decode cX5_fillHas 0 = .ok (.aload_n 0, 1) := by decide +kernel
theorem dX5_fillHas_1 : decode cX5_fillHas 1 = .ok (.invokevirtual 48, 3) := by decide +kernel
theorem dX5_fillHas_4 : decode cX5_fillHas 4 = .ok (.iconst 0, 1) := by decide +kernel
theorem dX5_fillHas_5 : decode cX5_fillHas 5 = .ok (.istore_n 2, 1) := by decide +kernel
theorem dX5_fillHas_6 : decode cX5_fillHas 6 = .ok (.iload_n 2, 1) := by decide +kernel
theorem dX5_fillHas_7 : decode cX5_fillHas 7 = .ok (.iconst 1, 1) := by decide +kernel
theorem dX5_fillHas_8 : decode cX5_fillHas 8 = .ok (.iload_n 1, 1) := by decide +kernel
theorem dX5_fillHas_9 : decode cX5_fillHas 9 = .ok (.ishl, 1) := by decide +kernel
theorem dX5_fillHas_10 : decode cX5_fillHas 10 = .ok (.if_icmp .ge 71, 3) := by decide +kernel
theorem dX5_fillHas_13 : decode cX5_fillHas 13 = .ok (.iconst 0, 1) := by decide +kernel
theorem dX5_fillHas_14 : decode cX5_fillHas 14 = .ok (.istore_n 3, 1) := by decide +kernel
theorem dX5_fillHas_15 : decode cX5_fillHas 15 = .ok (.iload_n 3, 1) := by decide +kernel
theorem dX5_fillHas_16 : decode cX5_fillHas 16 = .ok (.iload_n 1, 1) := by decide +kernel
theorem dX5_fillHas_17 : decode cX5_fillHas 17 = .ok (.if_icmp .ge 24, 3) := by decide +kernel
theorem dX5_fillHas_20 : decode cX5_fillHas 20 = .ok (.aload_n 0, 1) := by decide +kernel
theorem dX5_fillHas_21 : decode cX5_fillHas 21 = .ok (.aload_n 0, 1) := by decide +kernel
theorem dX5_fillHas_22 : decode cX5_fillHas 22 = .ok (.getfield 27, 3) := by decide +kernel
theorem dX5_fillHas_25 : decode cX5_fillHas 25 = .ok (.iload_n 3, 1) := by decide +kernel
theorem dX5_fillHas_26 : decode cX5_fillHas 26 = .ok (.iaload, 1) := by decide +kernel
theorem dX5_fillHas_27 : decode cX5_fillHas 27 = .ok (.iload_n 2, 1) := by decide +kernel
theorem dX5_fillHas_28 : decode cX5_fillHas 28 = .ok (.iload_n 3, 1) := by decide +kernel
theorem dX5_fillHas_29 : decode cX5_fillHas 29 = .ok (.ishr, 1) := by decide +kernel
theorem dX5_fillHas_30 : decode cX5_fillHas 30 = .ok (.iconst 1, 1) := by decide +kernel
theorem dX5_fillHas_31 : decode cX5_fillHas 31 = .ok (.iand, 1) := by decide +kernel
theorem dX5_fillHas_32 : decode cX5_fillHas 32 = .ok (.invokevirtual 79, 3) := by decide +kernel
theorem dX5_fillHas_35 : decode cX5_fillHas 35 = .ok (.iinc 3 1, 3) := by decide +kernel
theorem dX5_fillHas_38 : decode cX5_fillHas 38 = .ok (.goto (-23), 3) := by decide +kernel
theorem dX5_fillHas_41 : decode cX5_fillHas 41 = .ok (.iconst 0, 1) := by decide +kernel
theorem dX5_fillHas_42 : decode cX5_fillHas 42 = .ok (.istore_n 3, 1) := by decide +kernel
theorem dX5_fillHas_43 : decode cX5_fillHas 43 = .ok (.iload_n 3, 1) := by decide +kernel
theorem dX5_fillHas_44 : decode cX5_fillHas 44 = .ok (.iload_n 1, 1) := by decide +kernel
theorem dX5_fillHas_45 : decode cX5_fillHas 45 = .ok (.if_icmp .ge 30, 3) := by decide +kernel
theorem dX5_fillHas_48 : decode cX5_fillHas 48 = .ok (.aload_n 0, 1) := by decide +kernel
theorem dX5_fillHas_49 : decode cX5_fillHas 49 = .ok (.getfield 30, 3) := by decide +kernel
theorem dX5_fillHas_52 : decode cX5_fillHas 52 = .ok (.iload_n 2, 1) := by decide +kernel
theorem dX5_fillHas_53 : decode cX5_fillHas 53 = .ok (.bipush 6, 2) := by decide +kernel
theorem dX5_fillHas_55 : decode cX5_fillHas 55 = .ok (.imul, 1) := by decide +kernel
theorem dX5_fillHas_56 : decode cX5_fillHas 56 = .ok (.iload_n 3, 1) := by decide +kernel
theorem dX5_fillHas_57 : decode cX5_fillHas 57 = .ok (.iadd, 1) := by decide +kernel
theorem dX5_fillHas_58 : decode cX5_fillHas 58 = .ok (.aload_n 0, 1) := by decide +kernel
theorem dX5_fillHas_59 : decode cX5_fillHas 59 = .ok (.aload_n 0, 1) := by decide +kernel
theorem dX5_fillHas_60 : decode cX5_fillHas 60 = .ok (.getfield 27, 3) := by decide +kernel
theorem dX5_fillHas_63 : decode cX5_fillHas 63 = .ok (.iload_n 3, 1) := by decide +kernel
theorem dX5_fillHas_64 : decode cX5_fillHas 64 = .ok (.iaload, 1) := by decide +kernel
theorem dX5_fillHas_65 : decode cX5_fillHas 65 = .ok (.invokevirtual 51, 3) := by decide +kernel
theorem dX5_fillHas_68 : decode cX5_fillHas 68 = .ok (.iastore, 1) := by decide +kernel
theorem dX5_fillHas_69 : decode cX5_fillHas 69 = .ok (.iinc 3 1, 3) := by decide +kernel
theorem dX5_fillHas_72 : decode cX5_fillHas 72 = .ok (.goto (-29), 3) := by decide +kernel
theorem dX5_fillHas_75 : decode cX5_fillHas 75 = .ok (.iinc 2 1, 3) := by decide +kernel
theorem dX5_fillHas_78 : decode cX5_fillHas 78 = .ok (.goto (-72), 3) := by decide +kernel
theorem dX5_fillHas_81 : decode cX5_fillHas 81 = .ok (.return_, 1) := by decide +kernel
theorem dX5_isAtRest_0 : decode cX5_isAtRest 0 = .ok (.iconst 0, 1) := by decide +kernel
theorem dX5_isAtRest_1 : decode cX5_isAtRest 1 = .ok (.istore_n 3, 1) := by decide +kernel
theorem dX5_isAtRest_2 : decode cX5_isAtRest 2 = .ok (.iload_n 3, 1) := by decide +kernel
theorem dX5_isAtRest_3 : decode cX5_isAtRest 3 = .ok (.iload_n 2, 1) := by decide +kernel
theorem dX5_isAtRest_4 : decode cX5_isAtRest 4 = .ok (.if_icmp .ge 44, 3) := by decide +kernel
theorem dX5_isAtRest_7 : decode cX5_isAtRest 7 = .ok (.iload_n 1, 1) := by decide +kernel
theorem dX5_isAtRest_8 : decode cX5_isAtRest 8 = .ok (.iconst 1, 1) := by decide +kernel
theorem dX5_isAtRest_9 : decode cX5_isAtRest 9 = .ok (.iload_n 3, 1) := by decide +kernel
theorem dX5_isAtRest_10 : decode cX5_isAtRest 10 = .ok (.ishl, 1) := by decide +kernel
theorem dX5_isAtRest_11 : decode cX5_isAtRest 11 = .ok (.ixor, 1) := by decide +kernel
theorem dX5_isAtRest_12 : decode cX5_isAtRest 12 = .ok (.istore 4, 2) := by decide +kernel
theorem dX5_isAtRest_14 : decode cX5_isAtRest 14 = .ok (.aload_n 0, 1) := by decide +kernel
theorem dX5_isAtRest_15 : decode cX5_isAtRest 15 = .ok (.getfield 30, 3) := by decide +kernel
theorem dX5_isAtRest_18 : decode cX5_isAtRest 18 = .ok (.iload 4, 2) := by decide +kernel
theorem dX5_isAtRest_20 : decode cX5_isAtRest 20 = .ok (.bipush 6, 2) := by decide +kernel
theorem dX5_isAtRest_22 : decode cX5_isAtRest 22 = .ok (.imul, 1) := by decide +kernel
theorem dX5_isAtRest_23 : decode cX5_isAtRest 23 = .ok (.iload_n 3, 1) := by decide +kernel
theorem dX5_isAtRest_24 : decode cX5_isAtRest 24 = .ok (.iadd, 1) := by decide +kernel
theorem dX5_isAtRest_25 : decode cX5_isAtRest 25 = .ok (.iaload, 1) := by decide +kernel
theorem dX5_isAtRest_26 : decode cX5_isAtRest 26 = .ok (.aload_n 0, 1) := by decide +kernel
theorem dX5_isAtRest_27 : decode cX5_isAtRest 27 = .ok (.getfield 30, 3) := by decide +kernel
theorem dX5_isAtRest_30 : decode cX5_isAtRest 30 = .ok (.iload_n 1, 1) := by decide +kernel
theorem dX5_isAtRest_31 : decode cX5_isAtRest 31 = .ok (.bipush 6, 2) := by decide +kernel
theorem dX5_isAtRest_33 : decode cX5_isAtRest 33 = .ok (.imul, 1) := by decide +kernel
theorem dX5_isAtRest_34 : decode cX5_isAtRest 34 = .ok (.iload_n 3, 1) := by decide +kernel
theorem dX5_isAtRest_35 : decode cX5_isAtRest 35 = .ok (.iadd, 1) := by decide +kernel
theorem dX5_isAtRest_36 : decode cX5_isAtRest 36 = .ok (.iaload, 1) := by decide +kernel
theorem dX5_isAtRest_37 : decode cX5_isAtRest 37 = .ok (.if_icmp .le 5, 3) := by decide +kernel
theorem dX5_isAtRest_40 : decode cX5_isAtRest 40 = .ok (.iconst 0, 1) := by decide +kernel
theorem dX5_isAtRest_41 : decode cX5_isAtRest 41 = .ok (.ireturn, 1) := by decide +kernel
theorem dX5_isAtRest_42 : decode cX5_isAtRest 42 = .ok (.iinc 3 1, 3) := by decide +kernel
theorem dX5_isAtRest_45 : decode cX5_isAtRest 45 = .ok (.goto (-43), 3) := by decide +kernel
theorem dX5_isAtRest_48 : decode cX5_isAtRest 48 = .ok (.iconst 1, 1) := by decide +kernel
theorem dX5_isAtRest_49 : decode cX5_isAtRest 49 = .ok (.ireturn, 1) := by decide +kernel
theorem dX5_listSpotted_0 : decode cX5_listSpotted 0 = .ok (.iconst 0, 1) := by decide +kernel
theorem dX5_listSpotted_1 : decode cX5_listSpotted 1 = .ok (.istore_n 1, 1) := by decide +kernel
theorem dX5_listSpotted_2 : decode cX5_listSpotted 2 = .ok (.iconst 0, 1) := by decide +kernel
theorem dX5_listSpotted_3 : decode cX5_listSpotted 3 = .ok (.istore_n 2, 1) := by decide +kernel
theorem dX5_listSpotted_4 : decode cX5_listSpotted 4 = .ok (.iload_n 2, 1) := by decide +kernel
theorem dX5_listSpotted_5 : decode cX5_listSpotted 5 = .ok (.aload_n 0, 1) := by decide +kernel
theorem dX5_listSpotted_6 : decode cX5_listSpotted 6 = .ok (.getfield 36, 3) := by decide +kernel
theorem dX5_listSpotted_9 : decode cX5_listSpotted 9 = .ok (.getfield 70, 3) := by decide +kernel
theorem dX5_listSpotted_12 : decode cX5_listSpotted 12 = .ok (.if_icmp .ge 38, 3) := by decide +kernel
theorem dX5_listSpotted_15 : decode cX5_listSpotted 15 = .ok (.aload_n 0, 1) := by decide +kernel
theorem dX5_listSpotted_16 : decode cX5_listSpotted 16 = .ok (.getfield 36, 3) := by decide +kernel
theorem dX5_listSpotted_19 : decode cX5_listSpotted 19 = .ok (.getfield 76, 3) := by decide +kernel
theorem dX5_listSpotted_22 : decode cX5_listSpotted 22 = .ok (.iload_n 2, 1) := by decide +kernel
theorem dX5_listSpotted_23 : decode cX5_listSpotted 23 = .ok (.iaload, 1) := by decide +kernel
theorem dX5_listSpotted_24 : decode cX5_listSpotted 24 = .ok (.iconst (-1), 1) := by decide +kernel
theorem dX5_listSpotted_25 : decode cX5_listSpotted 25 = .ok (.if_icmp .eq 19, 3) := by decide +kernel
theorem dX5_listSpotted_28 : decode cX5_listSpotted 28 = .ok (.iload_n 1, 1) := by decide +kernel
theorem dX5_listSpotted_29 : decode cX5_listSpotted 29 = .ok (.bipush 6, 2) := by decide +kernel
theorem dX5_listSpotted_31 : decode cX5_listSpotted 31 = .ok (.if_icmp .ge 10, 3) := by decide +kernel
theorem dX5_listSpotted_34 : decode cX5_listSpotted 34 = .ok (.aload_n 0, 1) := by decide +kernel
theorem dX5_listSpotted_35 : decode cX5_listSpotted 35 = .ok (.getfield 27, 3) := by decide +kernel
theorem dX5_listSpotted_38 : decode cX5_listSpotted 38 = .ok (.iload_n 1, 1) := by decide +kernel
theorem dX5_listSpotted_39 : decode cX5_listSpotted 39 = .ok (.iload_n 2, 1) := by decide +kernel
theorem dX5_listSpotted_40 : decode cX5_listSpotted 40 = .ok (.iastore, 1) := by decide +kernel
theorem dX5_listSpotted_41 : decode cX5_listSpotted 41 = .ok (.iinc 1 1, 3) := by decide +kernel
theorem dX5_listSpotted_44 : decode cX5_listSpotted 44 = .ok (.iinc 2 1, 3) := by decide +kernel
theorem dX5_listSpotted_47 : decode cX5_listSpotted 47 = .ok (.goto (-43), 3) := by decide +kernel
theorem dX5_listSpotted_50 : decode cX5_listSpotted 50 = .ok (.iload_n 1, 1) := by decide +kernel
theorem dX5_listSpotted_51 : decode cX5_listSpotted 51 = .ok (.ireturn, 1) := by decide +kernel
theorem dX5_spotsOf_0 : decode cX5_spotsOf 0 = .ok (.iconst 0, 1) := by decide +kernel
theorem dX5_spotsOf_1 : decode cX5_spotsOf 1 = .ok (.istore_n 3, 1) := by decide +kernel
theorem dX5_spotsOf_2 : decode cX5_spotsOf 2 = .ok (.iconst 0, 1) := by decide +kernel
theorem dX5_spotsOf_3 : decode cX5_spotsOf 3 = .ok (.istore 4, 2) := by decide +kernel
theorem dX5_spotsOf_5 : decode cX5_spotsOf 5 = .ok (.iload 4, 2) := by decide +kernel
theorem dX5_spotsOf_7 : decode cX5_spotsOf 7 = .ok (.iload_n 2, 1) := by decide +kernel
theorem dX5_spotsOf_8 : decode cX5_spotsOf 8 = .ok (.if_icmp .ge 26, 3) := by decide +kernel
theorem dX5_spotsOf_11 : decode cX5_spotsOf 11 = .ok (.iload_n 3, 1) := by decide +kernel
theorem dX5_spotsOf_12 : decode cX5_spotsOf 12 = .ok (.iload_n 1, 1) := by decide +kernel
theorem dX5_spotsOf_13 : decode cX5_spotsOf 13 = .ok (.iload 4, 2) := by decide +kernel
theorem dX5_spotsOf_15 : decode cX5_spotsOf 15 = .ok (.ishr, 1) := by decide +kernel
theorem dX5_spotsOf_16 : decode cX5_spotsOf 16 = .ok (.iconst 1, 1) := by decide +kernel
theorem dX5_spotsOf_17 : decode cX5_spotsOf 17 = .ok (.iand, 1) := by decide +kernel
theorem dX5_spotsOf_18 : decode cX5_spotsOf 18 = .ok (.aload_n 0, 1) := by decide +kernel
theorem dX5_spotsOf_19 : decode cX5_spotsOf 19 = .ok (.getfield 27, 3) := by decide +kernel
theorem dX5_spotsOf_22 : decode cX5_spotsOf 22 = .ok (.iload 4, 2) := by decide +kernel
theorem dX5_spotsOf_24 : decode cX5_spotsOf 24 = .ok (.iaload, 1) := by decide +kernel
theorem dX5_spotsOf_25 : decode cX5_spotsOf 25 = .ok (.ishl, 1) := by decide +kernel
theorem dX5_spotsOf_26 : decode cX5_spotsOf 26 = .ok (.ior, 1) := by decide +kernel
theorem dX5_spotsOf_27 : decode cX5_spotsOf 27 = .ok (.istore_n 3, 1) := by decide +kernel
theorem dX5_spotsOf_28 : decode cX5_spotsOf 28 = .ok (.iinc 4 1, 3) := by decide +kernel
theorem dX5_spotsOf_31 : decode cX5_spotsOf 31 = .ok (.goto (-26), 3) := by decide +kernel
theorem dX5_spotsOf_34 : decode cX5_spotsOf 34 = .ok (.iload_n 3, 1) := by decide +kernel
theorem dX5_spotsOf_35 : decode cX5_spotsOf 35 = .ok (.ireturn, 1) := by decide +kernel
theorem dX5_restingSpots_0 : decode cX5_restingSpots 0 = .ok (.aload_n 0, 1) := by decide +kernel
theorem dX5_restingSpots_1 : decode cX5_restingSpots 1 = .ok (.invokevirtual 83, 3) := by decide +kernel
theorem dX5_restingSpots_4 : decode cX5_restingSpots 4 = .ok (.istore_n 2, 1) := by decide +kernel
theorem dX5_restingSpots_5 : decode cX5_restingSpots 5 = .ok (.iload_n 1, 1) := by decide +kernel
theorem dX5_restingSpots_6 : decode cX5_restingSpots 6 = .ok (.iconst (-1), 1) := by decide +kernel
theorem dX5_restingSpots_7 : decode cX5_restingSpots 7 = .ok (.if_icmp .lt 9, 3) := by decide +kernel
theorem dX5_restingSpots_10 : decode cX5_restingSpots 10 = .ok (.iload_n 2, 1) := by decide +kernel
theorem dX5_restingSpots_11 : decode cX5_restingSpots 11 = .ok (.bipush 6, 2) := by decide +kernel
theorem dX5_restingSpots_13 : decode cX5_restingSpots 13 = .ok (.if_icmp .le 5, 3) := by decide +kernel
theorem dX5_restingSpots_16 : decode cX5_restingSpots 16 = .ok (.iconst (-1), 1) := by decide +kernel
theorem dX5_restingSpots_17 : decode cX5_restingSpots 17 = .ok (.ireturn, 1) := by decide +kernel
theorem dX5_restingSpots_18 : decode cX5_restingSpots 18 = .ok (.aload_n 0, 1) := by decide +kernel
theorem dX5_restingSpots_19 : decode cX5_restingSpots 19 = .ok (.iload_n 2, 1) := by decide +kernel
theorem dX5_restingSpots_20 : decode cX5_restingSpots 20 = .ok (.invokevirtual 87, 3) := by decide +kernel
theorem dX5_restingSpots_23 : decode cX5_restingSpots 23 = .ok (.iconst 0, 1) := by decide +kernel
theorem dX5_restingSpots_24 : decode cX5_restingSpots 24 = .ok (.istore_n 3, 1) := by decide +kernel
theorem dX5_restingSpots_25 : decode cX5_restingSpots 25 = .ok (.iconst 0, 1) := by decide +kernel
theorem dX5_restingSpots_26 : decode cX5_restingSpots 26 = .ok (.istore 4, 2) := by decide +kernel
theorem dX5_restingSpots_28 : decode cX5_restingSpots 28 = .ok (.iload 4, 2) := by decide +kernel
theorem dX5_restingSpots_30 : decode cX5_restingSpots 30 = .ok (.iconst 1, 1) := by decide +kernel
theorem dX5_restingSpots_31 : decode cX5_restingSpots 31 = .ok (.iload_n 2, 1) := by decide +kernel
theorem dX5_restingSpots_32 : decode cX5_restingSpots 32 = .ok (.ishl, 1) := by decide +kernel
theorem dX5_restingSpots_33 : decode cX5_restingSpots 33 = .ok (.if_icmp .ge 35, 3) := by decide +kernel
theorem dX5_restingSpots_36 : decode cX5_restingSpots 36 = .ok (.aload_n 0, 1) := by decide +kernel
theorem dX5_restingSpots_37 : decode cX5_restingSpots 37 = .ok (.iload 4, 2) := by decide +kernel
theorem dX5_restingSpots_39 : decode cX5_restingSpots 39 = .ok (.iload_n 2, 1) := by decide +kernel
theorem dX5_restingSpots_40 : decode cX5_restingSpots 40 = .ok (.invokevirtual 91, 3) := by decide +kernel
theorem dX5_restingSpots_43 : decode cX5_restingSpots 43 = .ok (.ifCond .eq 19, 3) := by decide +kernel
theorem dX5_restingSpots_46 : decode cX5_restingSpots 46 = .ok (.iload_n 3, 1) := by decide +kernel
theorem dX5_restingSpots_47 : decode cX5_restingSpots 47 = .ok (.iload_n 1, 1) := by decide +kernel
theorem dX5_restingSpots_48 : decode cX5_restingSpots 48 = .ok (.if_icmp .ne 11, 3) := by decide +kernel
theorem dX5_restingSpots_51 : decode cX5_restingSpots 51 = .ok (.aload_n 0, 1) := by decide +kernel
theorem dX5_restingSpots_52 : decode cX5_restingSpots 52 = .ok (.iload 4, 2) := by decide +kernel
theorem dX5_restingSpots_54 : decode cX5_restingSpots 54 = .ok (.iload_n 2, 1) := by decide +kernel
theorem dX5_restingSpots_55 : decode cX5_restingSpots 55 = .ok (.invokevirtual 95, 3) := by decide +kernel
theorem dX5_restingSpots_58 : decode cX5_restingSpots 58 = .ok (.ireturn, 1) := by decide +kernel
theorem dX5_restingSpots_59 : decode cX5_restingSpots 59 = .ok (.iinc 3 1, 3) := by decide +kernel
theorem dX5_restingSpots_62 : decode cX5_restingSpots 62 = .ok (.iinc 4 1, 3) := by decide +kernel
theorem dX5_restingSpots_65 : decode cX5_restingSpots 65 = .ok (.goto (-37), 3) := by decide +kernel
theorem dX5_restingSpots_68 : decode cX5_restingSpots 68 = .ok (.iload_n 1, 1) := by decide +kernel
theorem dX5_restingSpots_69 : decode cX5_restingSpots 69 = .ok (.iconst (-1), 1) := by decide +kernel
theorem dX5_restingSpots_70 : decode cX5_restingSpots 70 = .ok (.if_icmp .ne 7, 3) := by decide +kernel
theorem dX5_restingSpots_73 : decode cX5_restingSpots 73 = .ok (.iload_n 3, 1) := by decide +kernel
theorem dX5_restingSpots_74 : decode cX5_restingSpots 74 = .ok (.goto 4, 3) := by decide +kernel
theorem dX5_restingSpots_77 : decode cX5_restingSpots 77 = .ok (.iconst (-1), 1) := by decide +kernel
theorem dX5_restingSpots_78 : decode cX5_restingSpots 78 = .ok (.ireturn, 1) := by decide +kernel
theorem dX5_isTable_0 : decode cX5_isTable 0 = .ok (.aload_n 0, 1) := by decide +kernel
theorem dX5_isTable_1 : decode cX5_isTable 1 = .ok (.getfield 36, 3) := by decide +kernel
theorem dX5_isTable_4 : decode cX5_isTable 4 = .ok (.getfield 70, 3) := by decide +kernel
theorem dX5_isTable_7 : decode cX5_isTable 7 = .ok (.iconst 2, 1) := by decide +kernel
theorem dX5_isTable_8 : decode cX5_isTable 8 = .ok (.if_icmp .lt 29, 3) := by decide +kernel
theorem dX5_isTable_11 : decode cX5_isTable 11 = .ok (.aload_n 1, 1) := by decide +kernel
theorem dX5_isTable_12 : decode cX5_isTable 12 = .ok (.getfield 103, 3) := by decide +kernel
theorem dX5_isTable_15 : decode cX5_isTable 15 = .ok (.iconst 2, 1) := by decide +kernel
theorem dX5_isTable_16 : decode cX5_isTable 16 = .ok (.if_icmp .lt 21, 3) := by decide +kernel
theorem dX5_isTable_19 : decode cX5_isTable 19 = .ok (.aload_n 1, 1) := by decide +kernel
theorem dX5_isTable_20 : decode cX5_isTable 20 = .ok (.getfield 103, 3) := by decide +kernel
theorem dX5_isTable_23 : decode cX5_isTable 23 = .ok (.bipush 12, 2) := by decide +kernel
theorem dX5_isTable_25 : decode cX5_isTable 25 = .ok (.if_icmp .gt 12, 3) := by decide +kernel
theorem dX5_isTable_28 : decode cX5_isTable 28 = .ok (.aload_n 1, 1) := by decide +kernel
theorem dX5_isTable_29 : decode cX5_isTable 29 = .ok (.getfield 103, 3) := by decide +kernel
theorem dX5_isTable_32 : decode cX5_isTable 32 = .ok (.iconst 2, 1) := by decide +kernel
theorem dX5_isTable_33 : decode cX5_isTable 33 = .ok (.irem, 1) := by decide +kernel
theorem dX5_isTable_34 : decode cX5_isTable 34 = .ok (.ifCond .eq 5, 3) := by decide +kernel
theorem dX5_isTable_37 : decode cX5_isTable 37 = .ok (.iconst 0, 1) := by decide +kernel
theorem dX5_isTable_38 : decode cX5_isTable 38 = .ok (.ireturn, 1) := by decide +kernel
theorem dX5_isTable_39 : decode cX5_isTable 39 = .ok (.iconst 0, 1) := by decide +kernel
theorem dX5_isTable_40 : decode cX5_isTable 40 = .ok (.istore_n 2, 1) := by decide +kernel
theorem dX5_isTable_41 : decode cX5_isTable 41 = .ok (.iload_n 2, 1) := by decide +kernel
theorem dX5_isTable_42 : decode cX5_isTable 42 = .ok (.aload_n 1, 1) := by decide +kernel
theorem dX5_isTable_43 : decode cX5_isTable 43 = .ok (.getfield 103, 3) := by decide +kernel
theorem dX5_isTable_46 : decode cX5_isTable 46 = .ok (.if_icmp .ge 31, 3) := by decide +kernel
theorem dX5_isTable_49 : decode cX5_isTable 49 = .ok (.aload_n 1, 1) := by decide +kernel
theorem dX5_isTable_50 : decode cX5_isTable 50 = .ok (.getfield 111, 3) := by decide +kernel
theorem dX5_isTable_53 : decode cX5_isTable 53 = .ok (.iload_n 2, 1) := by decide +kernel
theorem dX5_isTable_54 : decode cX5_isTable 54 = .ok (.iaload, 1) := by decide +kernel
theorem dX5_isTable_55 : decode cX5_isTable 55 = .ok (.aload_n 1, 1) := by decide +kernel
theorem dX5_isTable_56 : decode cX5_isTable 56 = .ok (.getfield 111, 3) := by decide +kernel
theorem dX5_isTable_59 : decode cX5_isTable 59 = .ok (.iload_n 2, 1) := by decide +kernel
theorem dX5_isTable_60 : decode cX5_isTable 60 = .ok (.iconst 1, 1) := by decide +kernel
theorem dX5_isTable_61 : decode cX5_isTable 61 = .ok (.iadd, 1) := by decide +kernel
theorem dX5_isTable_62 : decode cX5_isTable 62 = .ok (.iaload, 1) := by decide +kernel
theorem dX5_isTable_63 : decode cX5_isTable 63 = .ok (.invokestatic 114, 3) := by decide +kernel
theorem dX5_isTable_66 : decode cX5_isTable 66 = .ok (.ifCond .ne 5, 3) := by decide +kernel
theorem dX5_isTable_69 : decode cX5_isTable 69 = .ok (.iconst 0, 1) := by decide +kernel
theorem dX5_isTable_70 : decode cX5_isTable 70 = .ok (.ireturn, 1) := by decide +kernel
theorem dX5_isTable_71 : decode cX5_isTable 71 = .ok (.iinc 2 2, 3) := by decide +kernel
theorem dX5_isTable_74 : decode cX5_isTable 74 = .ok (.goto (-33), 3) := by decide +kernel
theorem dX5_isTable_77 : decode cX5_isTable 77 = .ok (.iconst 1, 1) := by decide +kernel
theorem dX5_isTable_78 : decode cX5_isTable 78 = .ok (.ireturn, 1) := by decide +kernel
theorem dX5_tryAll_0 : decode cX5_tryAll 0 = .ok (.aload_n 0, 1) := by decide +kernel
theorem dX5_tryAll_1 : decode cX5_tryAll 1 = .ok (.aload_n 1, 1) := by decide +kernel
theorem dX5_tryAll_2 : decode cX5_tryAll 2 = .ok (.invokevirtual 99, 3) := by decide +kernel
theorem dX5_tryAll_5 : decode cX5_tryAll 5 = .ok (.ifCond .ne 5, 3) := by decide +kernel
theorem dX5_tryAll_8 : decode cX5_tryAll 8 = .ok (.iconst (-1), 1) := by decide +kernel
theorem dX5_tryAll_9 : decode cX5_tryAll 9 = .ok (.ireturn, 1) := by decide +kernel
theorem dX5_tryAll_10 : decode cX5_tryAll 10 = .ok (.aload_n 0, 1) := by decide +kernel
theorem dX5_tryAll_11 : decode cX5_tryAll 11 = .ok (.aload_n 1, 1) := by decide +kernel
theorem dX5_tryAll_12 : decode cX5_tryAll 12 = .ok (.getfield 103, 3) := by decide +kernel
theorem dX5_tryAll_15 : decode cX5_tryAll 15 = .ok (.iconst 2, 1) := by decide +kernel
theorem dX5_tryAll_16 : decode cX5_tryAll 16 = .ok (.idiv, 1) := by decide +kernel
theorem dX5_tryAll_17 : decode cX5_tryAll 17 = .ok (.putfield 108, 3) := by decide +kernel
theorem dX5_tryAll_20 : decode cX5_tryAll 20 = .ok (.aload_n 0, 1) := by decide +kernel
theorem dX5_tryAll_21 : decode cX5_tryAll 21 = .ok (.invokevirtual 48, 3) := by decide +kernel
theorem dX5_tryAll_24 : decode cX5_tryAll 24 = .ok (.iconst 0, 1) := by decide +kernel
theorem dX5_tryAll_25 : decode cX5_tryAll 25 = .ok (.istore_n 2, 1) := by decide +kernel
theorem dX5_tryAll_26 : decode cX5_tryAll 26 = .ok (.iload_n 2, 1) := by decide +kernel
theorem dX5_tryAll_27 : decode cX5_tryAll 27 = .ok (.aload_n 0, 1) := by decide +kernel
theorem dX5_tryAll_28 : decode cX5_tryAll 28 = .ok (.getfield 108, 3) := by decide +kernel
theorem dX5_tryAll_31 : decode cX5_tryAll 31 = .ok (.if_icmp .ge 113, 3) := by decide +kernel
theorem dX5_tryAll_34 : decode cX5_tryAll 34 = .ok (.aload_n 0, 1) := by decide +kernel
theorem dX5_tryAll_35 : decode cX5_tryAll 35 = .ok (.iconst 0, 1) := by decide +kernel
theorem dX5_tryAll_36 : decode cX5_tryAll 36 = .ok (.iconst 0, 1) := by decide +kernel
theorem dX5_tryAll_37 : decode cX5_tryAll 37 = .ok (.aload_n 1, 1) := by decide +kernel
theorem dX5_tryAll_38 : decode cX5_tryAll 38 = .ok (.getfield 111, 3) := by decide +kernel
theorem dX5_tryAll_41 : decode cX5_tryAll 41 = .ok (.iconst 2, 1) := by decide +kernel
theorem dX5_tryAll_42 : decode cX5_tryAll 42 = .ok (.iload_n 2, 1) := by decide +kernel
theorem dX5_tryAll_43 : decode cX5_tryAll 43 = .ok (.imul, 1) := by decide +kernel
theorem dX5_tryAll_44 : decode cX5_tryAll 44 = .ok (.iaload, 1) := by decide +kernel
theorem dX5_tryAll_45 : decode cX5_tryAll 45 = .ok (.aload_n 1, 1) := by decide +kernel
theorem dX5_tryAll_46 : decode cX5_tryAll 46 = .ok (.getfield 111, 3) := by decide +kernel
theorem dX5_tryAll_49 : decode cX5_tryAll 49 = .ok (.iconst 2, 1) := by decide +kernel
theorem dX5_tryAll_50 : decode cX5_tryAll 50 = .ok (.iload_n 2, 1) := by decide +kernel
theorem dX5_tryAll_51 : decode cX5_tryAll 51 = .ok (.imul, 1) := by decide +kernel
theorem dX5_tryAll_52 : decode cX5_tryAll 52 = .ok (.iconst 1, 1) := by decide +kernel
theorem dX5_tryAll_53 : decode cX5_tryAll 53 = .ok (.iadd, 1) := by decide +kernel
theorem dX5_tryAll_54 : decode cX5_tryAll 54 = .ok (.iaload, 1) := by decide +kernel
theorem dX5_tryAll_55 : decode cX5_tryAll 55 = .ok (.iconst 0, 1) := by decide +kernel
theorem dX5_tryAll_56 : decode cX5_tryAll 56 = .ok (.invokevirtual 60, 3) := by decide +kernel
theorem dX5_tryAll_59 : decode cX5_tryAll 59 = .ok (.iconst 0, 1) := by decide +kernel
theorem dX5_tryAll_60 : decode cX5_tryAll 60 = .ok (.istore_n 3, 1) := by decide +kernel
theorem dX5_tryAll_61 : decode cX5_tryAll 61 = .ok (.iload_n 3, 1) := by decide +kernel
theorem dX5_tryAll_62 : decode cX5_tryAll 62 = .ok (.aload_n 0, 1) := by decide +kernel
theorem dX5_tryAll_63 : decode cX5_tryAll 63 = .ok (.getfield 108, 3) := by decide +kernel
theorem dX5_tryAll_66 : decode cX5_tryAll 66 = .ok (.if_icmp .ge 72, 3) := by decide +kernel
theorem dX5_tryAll_69 : decode cX5_tryAll 69 = .ok (.aload_n 0, 1) := by decide +kernel
theorem dX5_tryAll_70 : decode cX5_tryAll 70 = .ok (.iconst 1, 1) := by decide +kernel
theorem dX5_tryAll_71 : decode cX5_tryAll 71 = .ok (.iconst 1, 1) := by decide +kernel
theorem dX5_tryAll_72 : decode cX5_tryAll 72 = .ok (.aload_n 1, 1) := by decide +kernel
theorem dX5_tryAll_73 : decode cX5_tryAll 73 = .ok (.getfield 111, 3) := by decide +kernel
theorem dX5_tryAll_76 : decode cX5_tryAll 76 = .ok (.iconst 2, 1) := by decide +kernel
theorem dX5_tryAll_77 : decode cX5_tryAll 77 = .ok (.iload_n 3, 1) := by decide +kernel
theorem dX5_tryAll_78 : decode cX5_tryAll 78 = .ok (.imul, 1) := by decide +kernel
theorem dX5_tryAll_79 : decode cX5_tryAll 79 = .ok (.iaload, 1) := by decide +kernel
theorem dX5_tryAll_80 : decode cX5_tryAll 80 = .ok (.aload_n 1, 1) := by decide +kernel
theorem dX5_tryAll_81 : decode cX5_tryAll 81 = .ok (.getfield 111, 3) := by decide +kernel
theorem dX5_tryAll_84 : decode cX5_tryAll 84 = .ok (.iconst 2, 1) := by decide +kernel
theorem dX5_tryAll_85 : decode cX5_tryAll 85 = .ok (.iload_n 3, 1) := by decide +kernel
theorem dX5_tryAll_86 : decode cX5_tryAll 86 = .ok (.imul, 1) := by decide +kernel
theorem dX5_tryAll_87 : decode cX5_tryAll 87 = .ok (.iconst 1, 1) := by decide +kernel
theorem dX5_tryAll_88 : decode cX5_tryAll 88 = .ok (.iadd, 1) := by decide +kernel
theorem dX5_tryAll_89 : decode cX5_tryAll 89 = .ok (.iaload, 1) := by decide +kernel
theorem dX5_tryAll_90 : decode cX5_tryAll 90 = .ok (.iconst 0, 1) := by decide +kernel
theorem dX5_tryAll_91 : decode cX5_tryAll 91 = .ok (.invokevirtual 60, 3) := by decide +kernel
theorem dX5_tryAll_94 : decode cX5_tryAll 94 = .ok (.aload_n 0, 1) := by decide +kernel
theorem dX5_tryAll_95 : decode cX5_tryAll 95 = .ok (.getfield 33, 3) := by decide +kernel
theorem dX5_tryAll_98 : decode cX5_tryAll 98 = .ok (.iconst 2, 1) := by decide +kernel
theorem dX5_tryAll_99 : decode cX5_tryAll 99 = .ok (.iload_n 2, 1) := by decide +kernel
theorem dX5_tryAll_100 : decode cX5_tryAll 100 = .ok (.bipush 6, 2) := by decide +kernel
theorem dX5_tryAll_102 : decode cX5_tryAll 102 = .ok (.imul, 1) := by decide +kernel
theorem dX5_tryAll_103 : decode cX5_tryAll 103 = .ok (.iload_n 3, 1) := by decide +kernel
theorem dX5_tryAll_104 : decode cX5_tryAll 104 = .ok (.iadd, 1) := by decide +kernel
theorem dX5_tryAll_105 : decode cX5_tryAll 105 = .ok (.imul, 1) := by decide +kernel
theorem dX5_tryAll_106 : decode cX5_tryAll 106 = .ok (.aload_n 0, 1) := by decide +kernel
theorem dX5_tryAll_107 : decode cX5_tryAll 107 = .ok (.iconst 0, 1) := by decide +kernel
theorem dX5_tryAll_108 : decode cX5_tryAll 108 = .ok (.invokevirtual 51, 3) := by decide +kernel
theorem dX5_tryAll_111 : decode cX5_tryAll 111 = .ok (.iastore, 1) := by decide +kernel
theorem dX5_tryAll_112 : decode cX5_tryAll 112 = .ok (.aload_n 0, 1) := by decide +kernel
theorem dX5_tryAll_113 : decode cX5_tryAll 113 = .ok (.getfield 33, 3) := by decide +kernel
theorem dX5_tryAll_116 : decode cX5_tryAll 116 = .ok (.iconst 2, 1) := by decide +kernel
theorem dX5_tryAll_117 : decode cX5_tryAll 117 = .ok (.iload_n 2, 1) := by decide +kernel
theorem dX5_tryAll_118 : decode cX5_tryAll 118 = .ok (.bipush 6, 2) := by decide +kernel
theorem dX5_tryAll_120 : decode cX5_tryAll 120 = .ok (.imul, 1) := by decide +kernel
theorem dX5_tryAll_121 : decode cX5_tryAll 121 = .ok (.iload_n 3, 1) := by decide +kernel
theorem dX5_tryAll_122 : decode cX5_tryAll 122 = .ok (.iadd, 1) := by decide +kernel
theorem dX5_tryAll_123 : decode cX5_tryAll 123 = .ok (.imul, 1) := by decide +kernel
theorem dX5_tryAll_124 : decode cX5_tryAll 124 = .ok (.iconst 1, 1) := by decide +kernel
theorem dX5_tryAll_125 : decode cX5_tryAll 125 = .ok (.iadd, 1) := by decide +kernel
theorem dX5_tryAll_126 : decode cX5_tryAll 126 = .ok (.aload_n 0, 1) := by decide +kernel
theorem dX5_tryAll_127 : decode cX5_tryAll 127 = .ok (.iconst 1, 1) := by decide +kernel
theorem dX5_tryAll_128 : decode cX5_tryAll 128 = .ok (.invokevirtual 51, 3) := by decide +kernel
theorem dX5_tryAll_131 : decode cX5_tryAll 131 = .ok (.iastore, 1) := by decide +kernel
theorem dX5_tryAll_132 : decode cX5_tryAll 132 = .ok (.iinc 3 1, 3) := by decide +kernel
theorem dX5_tryAll_135 : decode cX5_tryAll 135 = .ok (.goto (-74), 3) := by decide +kernel
theorem dX5_tryAll_138 : decode cX5_tryAll 138 = .ok (.iinc 2 1, 3) := by decide +kernel
theorem dX5_tryAll_141 : decode cX5_tryAll 141 = .ok (.goto (-115), 3) := by decide +kernel
theorem dX5_tryAll_144 : decode cX5_tryAll 144 = .ok (.aload_n 0, 1) := by decide +kernel
theorem dX5_tryAll_145 : decode cX5_tryAll 145 = .ok (.getfield 108, 3) := by decide +kernel
theorem dX5_tryAll_148 : decode cX5_tryAll 148 = .ok (.ireturn, 1) := by decide +kernel
theorem dX5_metMarks_0 : decode cX5_metMarks 0 = .ok (.iload_n 1, 1) := by decide +kernel
theorem dX5_metMarks_1 : decode cX5_metMarks 1 = .ok (.ifCond .lt 23, 3) := by decide +kernel
theorem dX5_metMarks_4 : decode cX5_metMarks 4 = .ok (.iload_n 1, 1) := by decide +kernel
theorem dX5_metMarks_5 : decode cX5_metMarks 5 = .ok (.aload_n 0, 1) := by decide +kernel
theorem dX5_metMarks_6 : decode cX5_metMarks 6 = .ok (.getfield 108, 3) := by decide +kernel
theorem dX5_metMarks_9 : decode cX5_metMarks 9 = .ok (.if_icmp .ge 15, 3) := by decide +kernel
theorem dX5_metMarks_12 : decode cX5_metMarks 12 = .ok (.iload_n 2, 1) := by decide +kernel
theorem dX5_metMarks_13 : decode cX5_metMarks 13 = .ok (.ifCond .lt 11, 3) := by decide +kernel
theorem dX5_metMarks_16 : decode cX5_metMarks 16 = .ok (.iload_n 2, 1) := by decide +kernel
theorem dX5_metMarks_17 : decode cX5_metMarks 17 = .ok (.aload_n 0, 1) := by decide +kernel
theorem dX5_metMarks_18 : decode cX5_metMarks 18 = .ok (.getfield 108, 3) := by decide +kernel
theorem dX5_metMarks_21 : decode cX5_metMarks 21 = .ok (.if_icmp .lt 7, 3) := by decide +kernel
theorem dX5_metMarks_24 : decode cX5_metMarks 24 = .ok (.sipush (-10001), 3) := by decide +kernel
theorem dX5_metMarks_27 : decode cX5_metMarks 27 = .ok (.ireturn, 1) := by decide +kernel
theorem dX5_metMarks_28 : decode cX5_metMarks 28 = .ok (.aload_n 0, 1) := by decide +kernel
theorem dX5_metMarks_29 : decode cX5_metMarks 29 = .ok (.getfield 33, 3) := by decide +kernel
theorem dX5_metMarks_32 : decode cX5_metMarks 32 = .ok (.iconst 2, 1) := by decide +kernel
theorem dX5_metMarks_33 : decode cX5_metMarks 33 = .ok (.iload_n 1, 1) := by decide +kernel
theorem dX5_metMarks_34 : decode cX5_metMarks 34 = .ok (.bipush 6, 2) := by decide +kernel
theorem dX5_metMarks_36 : decode cX5_metMarks 36 = .ok (.imul, 1) := by decide +kernel
theorem dX5_metMarks_37 : decode cX5_metMarks 37 = .ok (.iload_n 2, 1) := by decide +kernel
theorem dX5_metMarks_38 : decode cX5_metMarks 38 = .ok (.iadd, 1) := by decide +kernel
theorem dX5_metMarks_39 : decode cX5_metMarks 39 = .ok (.imul, 1) := by decide +kernel
theorem dX5_metMarks_40 : decode cX5_metMarks 40 = .ok (.iload_n 3, 1) := by decide +kernel
theorem dX5_metMarks_41 : decode cX5_metMarks 41 = .ok (.iadd, 1) := by decide +kernel
theorem dX5_metMarks_42 : decode cX5_metMarks 42 = .ok (.iaload, 1) := by decide +kernel
theorem dX5_metMarks_43 : decode cX5_metMarks 43 = .ok (.ireturn, 1) := by decide +kernel
theorem dX5_bestReply_0 : decode cX5_bestReply 0 = .ok (.iconst (-1), 1) := by decide +kernel
theorem dX5_bestReply_1 : decode cX5_bestReply 1 = .ok (.istore_n 2, 1) := by decide +kernel
theorem dX5_bestReply_2 : decode cX5_bestReply 2 = .ok (.iconst 0, 1) := by decide +kernel
theorem dX5_bestReply_3 : decode cX5_bestReply 3 = .ok (.istore_n 3, 1) := by decide +kernel
theorem dX5_bestReply_4 : decode cX5_bestReply 4 = .ok (.iload_n 3, 1) := by decide +kernel
theorem dX5_bestReply_5 : decode cX5_bestReply 5 = .ok (.aload_n 0, 1) := by decide +kernel
theorem dX5_bestReply_6 : decode cX5_bestReply 6 = .ok (.getfield 108, 3) := by decide +kernel
theorem dX5_bestReply_9 : decode cX5_bestReply 9 = .ok (.if_icmp .ge 45, 3) := by decide +kernel
theorem dX5_bestReply_12 : decode cX5_bestReply 12 = .ok (.iload_n 1, 1) := by decide +kernel
theorem dX5_bestReply_13 : decode cX5_bestReply 13 = .ok (.ifCond .lt 41, 3) := by decide +kernel
theorem dX5_bestReply_16 : decode cX5_bestReply 16 = .ok (.iload_n 1, 1) := by decide +kernel
theorem dX5_bestReply_17 : decode cX5_bestReply 17 = .ok (.aload_n 0, 1) := by decide +kernel
theorem dX5_bestReply_18 : decode cX5_bestReply 18 = .ok (.getfield 108, 3) := by decide +kernel
theorem dX5_bestReply_21 : decode cX5_bestReply 21 = .ok (.if_icmp .ge 33, 3) := by decide +kernel
theorem dX5_bestReply_24 : decode cX5_bestReply 24 = .ok (.iload_n 2, 1) := by decide +kernel
theorem dX5_bestReply_25 : decode cX5_bestReply 25 = .ok (.iconst (-1), 1) := by decide +kernel
theorem dX5_bestReply_26 : decode cX5_bestReply 26 = .ok (.if_icmp .eq 20, 3) := by decide +kernel
theorem dX5_bestReply_29 : decode cX5_bestReply 29 = .ok (.aload_n 0, 1) := by decide +kernel
theorem dX5_bestReply_30 : decode cX5_bestReply 30 = .ok (.iload_n 3, 1) := by decide +kernel
theorem dX5_bestReply_31 : decode cX5_bestReply 31 = .ok (.iload_n 1, 1) := by decide +kernel
theorem dX5_bestReply_32 : decode cX5_bestReply 32 = .ok (.iconst 0, 1) := by decide +kernel
theorem dX5_bestReply_33 : decode cX5_bestReply 33 = .ok (.invokevirtual 117, 3) := by decide +kernel
theorem dX5_bestReply_36 : decode cX5_bestReply 36 = .ok (.aload_n 0, 1) := by decide +kernel
theorem dX5_bestReply_37 : decode cX5_bestReply 37 = .ok (.iload_n 2, 1) := by decide +kernel
theorem dX5_bestReply_38 : decode cX5_bestReply 38 = .ok (.iload_n 1, 1) := by decide +kernel
theorem dX5_bestReply_39 : decode cX5_bestReply 39 = .ok (.iconst 0, 1) := by decide +kernel
theorem dX5_bestReply_40 : decode cX5_bestReply 40 = .ok (.invokevirtual 117, 3) := by decide +kernel
theorem dX5_bestReply_43 : decode cX5_bestReply 43 = .ok (.if_icmp .le 5, 3) := by decide +kernel
theorem dX5_bestReply_46 : decode cX5_bestReply 46 = .ok (.iload_n 3, 1) := by decide +kernel
theorem dX5_bestReply_47 : decode cX5_bestReply 47 = .ok (.istore_n 2, 1) := by decide +kernel
theorem dX5_bestReply_48 : decode cX5_bestReply 48 = .ok (.iinc 3 1, 3) := by decide +kernel
theorem dX5_bestReply_51 : decode cX5_bestReply 51 = .ok (.goto (-47), 3) := by decide +kernel
theorem dX5_bestReply_54 : decode cX5_bestReply 54 = .ok (.iload_n 2, 1) := by decide +kernel
theorem dX5_bestReply_55 : decode cX5_bestReply 55 = .ok (.ireturn, 1) := by decide +kernel
