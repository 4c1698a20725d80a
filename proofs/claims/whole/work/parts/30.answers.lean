theorem tb_1422 : Cond.code yX10_quarterTold cX10_quarterTold 3 (some .int) ∈ aw_TB := aw_tb 1422 (by decide +kernel) (by decide +kernel)
theorem tb_1419 : Cond.methodLink RX10 153 yX10_quarterTold ∈ aw_TB := aw_tb 1419 (by decide +kernel) (by decide +kernel)
theorem tb_1421 : Cond.instanceMethod yX10_quarterTold ∈ aw_TB := aw_tb 1421 (by decide +kernel) (by decide +kernel)
theorem tbs_58 : Cond.selects RX10 yX10_quarterTold yX10_quarterTold ∈ aw_TB := aw_tbs 58 (by decide +kernel) (by decide +kernel)
theorem cw_RX10_153 : aw_cv RX10 153 yX10_quarterTold cX10_quarterTold 3 (some .int) 2 := ⟨⟨tb_1422, tb_1, ⟨by decide, by decide⟩, by decide +kernel, tb_1419⟩, tb_1421, tbs_58⟩
theorem tb_1418 : Cond.code yX10_quarterNow cX10_quarterNow 3 (some .int) ∈ aw_TB := aw_tb 1418 (by decide +kernel) (by decide +kernel)
theorem tb_1415 : Cond.methodLink RX10 149 yX10_quarterNow ∈ aw_TB := aw_tb 1415 (by decide +kernel) (by decide +kernel)
theorem tb_1417 : Cond.instanceMethod yX10_quarterNow ∈ aw_TB := aw_tb 1417 (by decide +kernel) (by decide +kernel)
theorem tbs_57 : Cond.selects RX10 yX10_quarterNow yX10_quarterNow ∈ aw_TB := aw_tbs 57 (by decide +kernel) (by decide +kernel)
theorem cw_RX10_149 : aw_cv RX10 149 yX10_quarterNow cX10_quarterNow 3 (some .int) 2 := ⟨⟨tb_1418, tb_1, ⟨by decide, by decide⟩, by decide +kernel, tb_1415⟩, tb_1417, tbs_57⟩
theorem tb_205 : Cond.fieldLink RX10 159 "OrangeFight$Town" "stop" "[I" ∈ aw_TB := aw_tb 205 (by decide +kernel) (by decide +kernel)
theorem fd_RX10_159 : aw_fd (RX8, TX8, 20) 8 11 RX10 159 2 := ⟨rfl, by decide, tb_205, inTB_8, rfl⟩
theorem tb_202 : Cond.fieldLink RX10 163 "OrangeFight$Town" "minute" "[I" ∈ aw_TB := aw_tb 202 (by decide +kernel) (by decide +kernel)
theorem fd_RX10_163 : aw_fd (RX8, TX8, 20) 8 10 RX10 163 2 := ⟨rfl, by decide, tb_202, inTB_8, rfl⟩
theorem tb_413 : Cond.fieldLink RX10 169 "OrangeFight$Fight" "loads" "[I" ∈ aw_TB := aw_tb 413 (by decide +kernel) (by decide +kernel)
theorem fd_RX10_169 : aw_fd (RX0, TX0, 20) 0 14 RX10 169 2 := ⟨rfl, by decide, tb_413, inTB_0, rfl⟩
theorem tb_210 : Cond.fieldLink RX10 172 "OrangeFight$Town" "pads" "[I" ∈ aw_TB := aw_tb 210 (by decide +kernel) (by decide +kernel)
theorem fd_RX10_172 : aw_fd (RX8, TX8, 20) 8 13 RX10 172 2 := ⟨rfl, by decide, tb_210, inTB_8, rfl⟩
theorem tb_415 : Cond.fieldLink RX10 175 "OrangeFight$Fight" "hits" "[I" ∈ aw_TB := aw_tb 415 (by decide +kernel) (by decide +kernel)
theorem fd_RX10_175 : aw_fd (RX0, TX0, 20) 0 15 RX10 175 2 := ⟨rfl, by decide, tb_415, inTB_0, rfl⟩
theorem tb_1430 : Cond.methodLink RX10 180 yX1_isThere ∈ aw_TB := aw_tb 1430 (by decide +kernel) (by decide +kernel)
theorem cw_RX10_180 : aw_cv RX10 180 yX1_isThere cX1_isThere 3 (some .boolean) 2 := ⟨⟨tb_822, tb_12, ⟨by decide, by decide⟩, by decide +kernel, tb_1430⟩, tb_820, tb_821⟩
theorem tb_418 : Cond.fieldLink RX10 189 "OrangeFight$Fight" "pulp" "[I" ∈ aw_TB := aw_tb 418 (by decide +kernel) (by decide +kernel)
theorem fd_RX10_189 : aw_fd (RX0, TX0, 20) 0 16 RX10 189 2 := ⟨rfl, by decide, tb_418, inTB_0, rfl⟩
theorem tb_215 : Cond.fieldLink RX10 192 "OrangeFight$Town" "owner" "[I" ∈ aw_TB := aw_tb 215 (by decide +kernel) (by decide +kernel)
theorem fd_RX10_192 : aw_fd (RX8, TX8, 20) 8 16 RX10 192 2 := ⟨rfl, by decide, tb_215, inTB_8, rfl⟩
theorem tb_1438 : Cond.methodLink RX10 195 yX8_hasOn ∈ aw_TB := aw_tb 1438 (by decide +kernel) (by decide +kernel)
theorem cw_RX10_195 : aw_cv RX10 195 yX8_hasOn cX8_hasOn 3 (some .boolean) 2 := ⟨⟨tb_729, tb_8, ⟨by decide, by decide⟩, by decide +kernel, tb_1438⟩, tb_727, tb_728⟩
theorem tb_1353 : Cond.code yX10_quarter cX10_quarter 3 (some .int) ∈ aw_TB := aw_tb 1353 (by decide +kernel) (by decide +kernel)
theorem tb_1350 : Cond.methodLink RL 7 yX10_quarter ∈ aw_TB := aw_tb 1350 (by decide +kernel) (by decide +kernel)
theorem tb_1351 : Cond.instanceMethod yX10_quarter ∈ aw_TB := aw_tb 1351 (by decide +kernel) (by decide +kernel)
theorem tb_1352 : Cond.selects RX10 yX10_quarter yX10_quarter ∈ aw_TB := aw_tb 1352 (by decide +kernel) (by decide +kernel)
theorem cw_RL_7 : aw_cv RL 7 yX10_quarter cX10_quarter 3 (some .int) 2 := ⟨⟨tb_1353, tb_1, ⟨by decide, by decide⟩, by decide +kernel, tb_1350⟩, tb_1351, tb_1352⟩
theorem tb_1429 : Cond.code yX10_cart cX10_cart 3 (some .int) ∈ aw_TB := aw_tb 1429 (by decide +kernel) (by decide +kernel)
theorem tb_1426 : Cond.methodLink RL 15 yX10_cart ∈ aw_TB := aw_tb 1426 (by decide +kernel) (by decide +kernel)
theorem tb_1427 : Cond.instanceMethod yX10_cart ∈ aw_TB := aw_tb 1427 (by decide +kernel) (by decide +kernel)
theorem tb_1428 : Cond.selects RX10 yX10_cart yX10_cart ∈ aw_TB := aw_tb 1428 (by decide +kernel) (by decide +kernel)
theorem cw_RL_15 : aw_cv RL 15 yX10_cart cX10_cart 3 (some .int) 2 := ⟨⟨tb_1429, tb_1, ⟨by decide, by decide⟩, by decide +kernel, tb_1426⟩, tb_1427, tb_1428⟩
theorem tb_1437 : Cond.code yX10_cell cX10_cell 3 (some .int) ∈ aw_TB := aw_tb 1437 (by decide +kernel) (by decide +kernel)
theorem tb_1434 : Cond.methodLink RL 18 yX10_cell ∈ aw_TB := aw_tb 1434 (by decide +kernel) (by decide +kernel)
theorem tb_1435 : Cond.instanceMethod yX10_cell ∈ aw_TB := aw_tb 1435 (by decide +kernel) (by decide +kernel)
theorem tb_1436 : Cond.selects RX10 yX10_cell yX10_cell ∈ aw_TB := aw_tb 1436 (by decide +kernel) (by decide +kernel)
theorem cw_RL_18 : aw_cv RL 18 yX10_cell cX10_cell 3 (some .int) 2 := ⟨⟨tb_1437, tb_1, ⟨by decide, by decide⟩, by decide +kernel, tb_1434⟩, tb_1435, tb_1436⟩
theorem dX10_quarter_0 : decode cX10_quarter 0 = .ok (.aload_n 0, 1) := by decide +kernel
theorem dX10_quarter_1 : decode cX10_quarter 1 = .ok (.iload_n 1, 1) := by decide +kernel
theorem dX10_quarter_2 : decode cX10_quarter 2 = .ok (.invokevirtual 142, 3) := by decide +kernel
theorem dX10_quarter_5 : decode cX10_quarter 5 = .ok (.ifCond .eq 13, 3) := by decide +kernel
theorem dX10_quarter_8 : decode cX10_quarter 8 = .ok (.iload_n 2, 1) := by decide +kernel
theorem dX10_quarter_9 : decode cX10_quarter 9 = .ok (.ifCond .lt 9, 3) := by decide +kernel
theorem dX10_quarter_12 : decode cX10_quarter 12 = .ok (.iload_n 2, 1) := by decide +kernel
theorem dX10_quarter_13 : decode cX10_quarter 13 = .ok (.bipush 9, 2) := by decide +kernel
theorem dX10_quarter_15 : decode cX10_quarter 15 = .ok (.if_icmp .le 11, 3) := by decide +kernel
theorem dX10_quarter_18 : decode cX10_quarter 18 = .ok (.new 146, 3) := by decide +kernel
theorem dX10_quarter_21 : decode cX10_quarter 21 = .ok (.dup, 1) := by decide +kernel
theorem dX10_quarter_22 : decode cX10_quarter 22 = .ok (.invokespecial 148, 3) := by decide +kernel
theorem dX10_quarter_25 : decode cX10_quarter 25 = .ok (.athrow, 1) := by decide +kernel
theorem dX10_quarter_26 : decode cX10_quarter 26 = .ok (.iload_n 2, 1) := by decide +kernel
theorem dX10_quarter_27 : decode cX10_quarter 27 = .ok (.bipush 6, 2) := by decide +kernel
theorem dX10_quarter_29 : decode cX10_quarter 29 = .ok (.if_icmp .ge 12, 3) := by decide +kernel
theorem dX10_quarter_32 : decode cX10_quarter 32 = .ok (.aload_n 0, 1) := by decide +kernel
theorem dX10_quarter_33 : decode cX10_quarter 33 = .ok (.iload_n 1, 1) := by decide +kernel
theorem dX10_quarter_34 : decode cX10_quarter 34 = .ok (.iload_n 2, 1) := by decide +kernel
theorem dX10_quarter_35 : decode cX10_quarter 35 = .ok (.invokevirtual 149, 3) := by decide +kernel
theorem dX10_quarter_38 : decode cX10_quarter 38 = .ok (.goto 9, 3) := by decide +kernel
theorem dX10_quarter_41 : decode cX10_quarter 41 = .ok (.aload_n 0, 1) := by decide +kernel
theorem dX10_quarter_42 : decode cX10_quarter 42 = .ok (.iload_n 1, 1) := by decide +kernel
theorem dX10_quarter_43 : decode cX10_quarter 43 = .ok (.iload_n 2, 1) := by decide +kernel
theorem dX10_quarter_44 : decode cX10_quarter 44 = .ok (.invokevirtual 153, 3) := by decide +kernel
theorem dX10_quarter_47 : decode cX10_quarter 47 = .ok (.ireturn, 1) := by decide +kernel
theorem dX10_cart_0 : decode cX10_cart 0 = .ok (.aload_n 0, 1) := by decide +kernel
theorem dX10_cart_1 : decode cX10_cart 1 = .ok (.iload_n 1, 1) := by decide +kernel
theorem dX10_cart_2 : decode cX10_cart 2 = .ok (.invokevirtual 156, 3) := by decide +kernel
theorem dX10_cart_5 : decode cX10_cart 5 = .ok (.ifCond .eq 12, 3) := by decide +kernel
theorem dX10_cart_8 : decode cX10_cart 8 = .ok (.iload_n 2, 1) := by decide +kernel
theorem dX10_cart_9 : decode cX10_cart 9 = .ok (.ifCond .lt 8, 3) := by decide +kernel
theorem dX10_cart_12 : decode cX10_cart 12 = .ok (.iload_n 2, 1) := by decide +kernel
theorem dX10_cart_13 : decode cX10_cart 13 = .ok (.iconst 5, 1) := by decide +kernel
theorem dX10_cart_14 : decode cX10_cart 14 = .ok (.if_icmp .le 11, 3) := by decide +kernel
theorem dX10_cart_17 : decode cX10_cart 17 = .ok (.new 146, 3) := by decide +kernel
theorem dX10_cart_20 : decode cX10_cart 20 = .ok (.dup, 1) := by decide +kernel
theorem dX10_cart_21 : decode cX10_cart 21 = .ok (.invokespecial 148, 3) := by decide +kernel
theorem dX10_cart_24 : decode cX10_cart 24 = .ok (.athrow, 1) := by decide +kernel
theorem dX10_cart_25 : decode cX10_cart 25 = .ok (.iload_n 2, 1) := by decide +kernel
theorem dX10_cart_26 : decode cX10_cart 26 = .ok (.tableswitch 99 0 4 #[34, 47, 60, 73, 86], 34) := by decide +kernel
theorem dX10_cart_60 : decode cX10_cart 60 = .ok (.aload_n 0, 1) := by decide +kernel
theorem dX10_cart_61 : decode cX10_cart 61 = .ok (.getfield 19, 3) := by decide +kernel
theorem dX10_cart_64 : decode cX10_cart 64 = .ok (.getfield 54, 3) := by decide +kernel
theorem dX10_cart_67 : decode cX10_cart 67 = .ok (.getfield 159, 3) := by decide +kernel
theorem dX10_cart_70 : decode cX10_cart 70 = .ok (.iload_n 1, 1) := by decide +kernel
theorem dX10_cart_71 : decode cX10_cart 71 = .ok (.iaload, 1) := by decide +kernel
theorem dX10_cart_72 : decode cX10_cart 72 = .ok (.ireturn, 1) := by decide +kernel
theorem dX10_cart_73 : decode cX10_cart 73 = .ok (.aload_n 0, 1) := by decide +kernel
theorem dX10_cart_74 : decode cX10_cart 74 = .ok (.getfield 19, 3) := by decide +kernel
theorem dX10_cart_77 : decode cX10_cart 77 = .ok (.getfield 54, 3) := by decide +kernel
theorem dX10_cart_80 : decode cX10_cart 80 = .ok (.getfield 163, 3) := by decide +kernel
theorem dX10_cart_83 : decode cX10_cart 83 = .ok (.iload_n 1, 1) := by decide +kernel
theorem dX10_cart_84 : decode cX10_cart 84 = .ok (.iaload, 1) := by decide +kernel
theorem dX10_cart_85 : decode cX10_cart 85 = .ok (.ireturn, 1) := by decide +kernel
theorem dX10_cart_86 : decode cX10_cart 86 = .ok (.aload_n 0, 1) := by decide +kernel
theorem dX10_cart_87 : decode cX10_cart 87 = .ok (.getfield 19, 3) := by decide +kernel
theorem dX10_cart_90 : decode cX10_cart 90 = .ok (.getfield 166, 3) := by decide +kernel
theorem dX10_cart_93 : decode cX10_cart 93 = .ok (.getfield 169, 3) := by decide +kernel
theorem dX10_cart_96 : decode cX10_cart 96 = .ok (.iload_n 1, 1) := by decide +kernel
theorem dX10_cart_97 : decode cX10_cart 97 = .ok (.iaload, 1) := by decide +kernel
theorem dX10_cart_98 : decode cX10_cart 98 = .ok (.ireturn, 1) := by decide +kernel
theorem dX10_cart_99 : decode cX10_cart 99 = .ok (.aload_n 0, 1) := by decide +kernel
theorem dX10_cart_100 : decode cX10_cart 100 = .ok (.getfield 19, 3) := by decide +kernel
theorem dX10_cart_103 : decode cX10_cart 103 = .ok (.getfield 54, 3) := by decide +kernel
theorem dX10_cart_106 : decode cX10_cart 106 = .ok (.getfield 172, 3) := by decide +kernel
theorem dX10_cart_109 : decode cX10_cart 109 = .ok (.iload_n 1, 1) := by decide +kernel
theorem dX10_cart_110 : decode cX10_cart 110 = .ok (.iaload, 1) := by decide +kernel
theorem dX10_cart_111 : decode cX10_cart 111 = .ok (.ireturn, 1) := by decide +kernel
theorem dX10_cart_112 : decode cX10_cart 112 = .ok (.aload_n 0, 1) := by decide +kernel
theorem dX10_cart_113 : decode cX10_cart 113 = .ok (.getfield 19, 3) := by decide +kernel
theorem dX10_cart_116 : decode cX10_cart 116 = .ok (.getfield 166, 3) := by decide +kernel
theorem dX10_cart_119 : decode cX10_cart 119 = .ok (.getfield 175, 3) := by decide +kernel
theorem dX10_cart_122 : decode cX10_cart 122 = .ok (.iload_n 1, 1) := by decide +kernel
theorem dX10_cart_123 : decode cX10_cart 123 = .ok (.iaload, 1) := by decide +kernel
theorem dX10_cart_124 : decode cX10_cart 124 = .ok (.ireturn, 1) := by decide +kernel
theorem dX10_cart_125 : decode cX10_cart 125 = .ok (.aload_n 0, 1) := by decide +kernel
theorem dX10_cart_126 : decode cX10_cart 126 = .ok (.getfield 19, 3) := by decide +kernel
theorem dX10_cart_129 : decode cX10_cart 129 = .ok (.getfield 60, 3) := by decide +kernel
theorem dX10_cart_132 : decode cX10_cart 132 = .ok (.aload_n 0, 1) := by decide +kernel
theorem dX10_cart_133 : decode cX10_cart 133 = .ok (.getfield 19, 3) := by decide +kernel
theorem dX10_cart_136 : decode cX10_cart 136 = .ok (.getfield 54, 3) := by decide +kernel
theorem dX10_cart_139 : decode cX10_cart 139 = .ok (.getfield 163, 3) := by decide +kernel
theorem dX10_cart_142 : decode cX10_cart 142 = .ok (.iload_n 1, 1) := by decide +kernel
theorem dX10_cart_143 : decode cX10_cart 143 = .ok (.iaload, 1) := by decide +kernel
theorem dX10_cart_144 : decode cX10_cart 144 = .ok (.aload_n 0, 1) := by decide +kernel
theorem dX10_cart_145 : decode cX10_cart 145 = .ok (.getfield 19, 3) := by decide +kernel
theorem dX10_cart_148 : decode cX10_cart 148 = .ok (.getfield 166, 3) := by decide +kernel
theorem dX10_cart_151 : decode cX10_cart 151 = .ok (.getfield 178, 3) := by decide +kernel
theorem dX10_cart_154 : decode cX10_cart 154 = .ok (.invokevirtual 180, 3) := by decide +kernel
theorem dX10_cart_157 : decode cX10_cart 157 = .ok (.ifCond .eq 7, 3) := by decide +kernel
theorem dX10_cart_160 : decode cX10_cart 160 = .ok (.iconst 1, 1) := by decide +kernel
theorem dX10_cart_161 : decode cX10_cart 161 = .ok (.goto 4, 3) := by decide +kernel
theorem dX10_cart_164 : decode cX10_cart 164 = .ok (.iconst 0, 1) := by decide +kernel
theorem dX10_cart_165 : decode cX10_cart 165 = .ok (.ireturn, 1) := by decide +kernel
theorem dX10_cell_0 : decode cX10_cell 0 = .ok (.aload_n 0, 1) := by decide +kernel
theorem dX10_cell_1 : decode cX10_cell 1 = .ok (.getfield 19, 3) := by decide +kernel
theorem dX10_cell_4 : decode cX10_cell 4 = .ok (.getfield 54, 3) := by decide +kernel
theorem dX10_cell_7 : decode cX10_cell 7 = .ok (.iload_n 1, 1) := by decide +kernel
theorem dX10_cell_8 : decode cX10_cell 8 = .ok (.invokevirtual 186, 3) := by decide +kernel
theorem dX10_cell_11 : decode cX10_cell 11 = .ok (.ifCond .eq 12, 3) := by decide +kernel
theorem dX10_cell_14 : decode cX10_cell 14 = .ok (.iload_n 2, 1) := by decide +kernel
theorem dX10_cell_15 : decode cX10_cell 15 = .ok (.ifCond .lt 8, 3) := by decide +kernel
theorem dX10_cell_18 : decode cX10_cell 18 = .ok (.iload_n 2, 1) := by decide +kernel
theorem dX10_cell_19 : decode cX10_cell 19 = .ok (.iconst 5, 1) := by decide +kernel
theorem dX10_cell_20 : decode cX10_cell 20 = .ok (.if_icmp .le 11, 3) := by decide +kernel
theorem dX10_cell_23 : decode cX10_cell 23 = .ok (.new 146, 3) := by decide +kernel
theorem dX10_cell_26 : decode cX10_cell 26 = .ok (.dup, 1) := by decide +kernel
theorem dX10_cell_27 : decode cX10_cell 27 = .ok (.invokespecial 148, 3) := by decide +kernel
theorem dX10_cell_30 : decode cX10_cell 30 = .ok (.athrow, 1) := by decide +kernel
theorem dX10_cell_31 : decode cX10_cell 31 = .ok (.iload_n 2, 1) := by decide +kernel
theorem dX10_cell_32 : decode cX10_cell 32 = .ok (.tableswitch 125 0 4 #[36, 49, 62, 83, 104], 36) := by decide +kernel
theorem dX10_cell_68 : decode cX10_cell 68 = .ok (.aload_n 0, 1) := by decide +kernel
theorem dX10_cell_69 : decode cX10_cell 69 = .ok (.getfield 19, 3) := by decide +kernel
theorem dX10_cell_72 : decode cX10_cell 72 = .ok (.getfield 166, 3) := by decide +kernel
theorem dX10_cell_75 : decode cX10_cell 75 = .ok (.getfield 189, 3) := by decide +kernel
theorem dX10_cell_78 : decode cX10_cell 78 = .ok (.iload_n 1, 1) := by decide +kernel
theorem dX10_cell_79 : decode cX10_cell 79 = .ok (.iaload, 1) := by decide +kernel
theorem dX10_cell_80 : decode cX10_cell 80 = .ok (.ireturn, 1) := by decide +kernel
theorem dX10_cell_81 : decode cX10_cell 81 = .ok (.aload_n 0, 1) := by decide +kernel
theorem dX10_cell_82 : decode cX10_cell 82 = .ok (.getfield 19, 3) := by decide +kernel
theorem dX10_cell_85 : decode cX10_cell 85 = .ok (.getfield 54, 3) := by decide +kernel
theorem dX10_cell_88 : decode cX10_cell 88 = .ok (.getfield 192, 3) := by decide +kernel
theorem dX10_cell_91 : decode cX10_cell 91 = .ok (.iload_n 1, 1) := by decide +kernel
theorem dX10_cell_92 : decode cX10_cell 92 = .ok (.iaload, 1) := by decide +kernel
theorem dX10_cell_93 : decode cX10_cell 93 = .ok (.ireturn, 1) := by decide +kernel
theorem dX10_cell_94 : decode cX10_cell 94 = .ok (.aload_n 0, 1) := by decide +kernel
theorem dX10_cell_95 : decode cX10_cell 95 = .ok (.getfield 19, 3) := by decide +kernel
theorem dX10_cell_98 : decode cX10_cell 98 = .ok (.getfield 54, 3) := by decide +kernel
theorem dX10_cell_101 : decode cX10_cell 101 = .ok (.iconst 0, 1) := by decide +kernel
theorem dX10_cell_102 : decode cX10_cell 102 = .ok (.iload_n 1, 1) := by decide +kernel
theorem dX10_cell_103 : decode cX10_cell 103 = .ok (.invokevirtual 195, 3) := by decide +kernel
theorem dX10_cell_106 : decode cX10_cell 106 = .ok (.ifCond .eq 7, 3) := by decide +kernel
theorem dX10_cell_109 : decode cX10_cell 109 = .ok (.iconst 1, 1) := by decide +kernel
theorem dX10_cell_110 : decode cX10_cell 110 = .ok (.goto 4, 3) := by decide +kernel
theorem dX10_cell_113 : decode cX10_cell 113 = .ok (.iconst 0, 1) := by decide +kernel
theorem dX10_cell_114 : decode cX10_cell 114 = .ok (.ireturn, 1) := by decide +kernel
theorem dX10_cell_115 : decode cX10_cell 115 = .ok (.aload_n 0, 1) := by decide +kernel
theorem dX10_cell_116 : decode cX10_cell 116 = .ok (.getfield 19, 3) := by decide +kernel
theorem dX10_cell_119 : decode cX10_cell 119 = .ok (.getfield 54, 3) := by decide +kernel
theorem dX10_cell_122 : decode cX10_cell 122 = .ok (.iconst 1, 1) := by decide +kernel
theorem dX10_cell_123 : decode cX10_cell 123 = .ok (.iload_n 1, 1) := by decide +kernel
theorem dX10_cell_124 : decode cX10_cell 124 = .ok (.invokevirtual 195, 3) := by decide +kernel
theorem dX10_cell_127 : decode cX10_cell 127 = .ok (.ifCond .eq 7, 3) := by decide +kernel
theorem dX10_cell_130 : decode cX10_cell 130 = .ok (.iconst 1, 1) := by decide +kernel
theorem dX10_cell_131 : decode cX10_cell 131 = .ok (.goto 4, 3) := by decide +kernel
theorem dX10_cell_134 : decode cX10_cell 134 = .ok (.iconst 0, 1) := by decide +kernel
theorem dX10_cell_135 : decode cX10_cell 135 = .ok (.ireturn, 1) := by decide +kernel
theorem dX10_cell_136 : decode cX10_cell 136 = .ok (.aload_n 0, 1) := by decide +kernel
theorem dX10_cell_137 : decode cX10_cell 137 = .ok (.getfield 19, 3) := by decide +kernel
theorem dX10_cell_140 : decode cX10_cell 140 = .ok (.getfield 54, 3) := by decide +kernel
theorem dX10_cell_143 : decode cX10_cell 143 = .ok (.iconst 2, 1) := by decide +kernel
theorem dX10_cell_144 : decode cX10_cell 144 = .ok (.iload_n 1, 1) := by decide +kernel
theorem dX10_cell_145 : decode cX10_cell 145 = .ok (.invokevirtual 195, 3) := by decide +kernel
theorem dX10_cell_148 : decode cX10_cell 148 = .ok (.ifCond .eq 7, 3) := by decide +kernel
theorem dX10_cell_151 : decode cX10_cell 151 = .ok (.iconst 1, 1) := by decide +kernel
theorem dX10_cell_152 : decode cX10_cell 152 = .ok (.goto 4, 3) := by decide +kernel
theorem dX10_cell_155 : decode cX10_cell 155 = .ok (.iconst 0, 1) := by decide +kernel
theorem dX10_cell_156 : decode cX10_cell 156 = .ok (.ireturn, 1) := by decide +kernel
theorem dX10_cell_157 : decode cX10_cell 157 = .ok (.aload_n 0, 1) := by decide +kernel
theorem dX10_cell_158 : decode cX10_cell 158 = .ok (.getfield 19, 3) := by decide +kernel
theorem dX10_cell_161 : decode cX10_cell 161 = .ok (.getfield 166, 3) := by decide +kernel
theorem dX10_cell_164 : decode cX10_cell 164 = .ok (.getfield 198, 3) := by decide +kernel
theorem dX10_cell_167 : decode cX10_cell 167 = .ok (.iload_n 1, 1) := by decide +kernel
theorem dX10_cell_168 : decode cX10_cell 168 = .ok (.iaload, 1) := by decide +kernel
theorem dX10_cell_169 : decode cX10_cell 169 = .ok (.ireturn, 1) := by decide +kernel
theorem dL_quarter_0 : decode cL_quarter 0 = .ok (.aload_n 3, 1) := by decide +kernel
theorem dL_quarter_1 : decode cL_quarter 1 = .ok (.iconst 0, 1) := by decide +kernel
theorem dL_quarter_2 : decode cL_quarter 2 = .ok (.aload_n 0, 1) := by decide +kernel
theorem dL_quarter_3 : decode cL_quarter 3 = .ok (.iload_n 1, 1) := by decide +kernel
theorem dL_quarter_4 : decode cL_quarter 4 = .ok (.iload_n 2, 1) := by decide +kernel
theorem dL_quarter_5 : decode cL_quarter 5 = .ok (.invokevirtual 7, 3) := by decide +kernel
theorem dL_quarter_8 : decode cL_quarter 8 = .ok (.i2l, 1) := by decide +kernel
theorem dL_quarter_9 : decode cL_quarter 9 = .ok (.lastore, 1) := by decide +kernel
theorem dL_quarter_10 : decode cL_quarter 10 = .ok (.goto 7, 3) := by decide +kernel
theorem dL_quarter_13 : decode cL_quarter 13 = .ok (.astore 4, 2) := by decide +kernel
theorem dL_quarter_15 : decode cL_quarter 15 = .ok (.iconst 1, 1) := by decide +kernel
theorem dL_quarter_16 : decode cL_quarter 16 = .ok (.ireturn, 1) := by decide +kernel
theorem dL_quarter_17 : decode cL_quarter 17 = .ok (.iconst 0, 1) := by decide +kernel
theorem dL_quarter_18 : decode cL_quarter 18 = .ok (.ireturn, 1) := by decide +kernel
theorem dL_cart_0 : decode cL_cart 0 = .ok (.aload_n 3, 1) := by decide +kernel
theorem dL_cart_1 : decode cL_cart 1 = .ok (.iconst 0, 1) := by decide +kernel
theorem dL_cart_2 : decode cL_cart 2 = .ok (.aload_n 0, 1) := by decide +kernel
theorem dL_cart_3 : decode cL_cart 3 = .ok (.iload_n 1, 1) := by decide +kernel
theorem dL_cart_4 : decode cL_cart 4 = .ok (.iload_n 2, 1) := by decide +kernel
theorem dL_cart_5 : decode cL_cart 5 = .ok (.invokevirtual 15, 3) := by decide +kernel
theorem dL_cart_8 : decode cL_cart 8 = .ok (.i2l, 1) := by decide +kernel
theorem dL_cart_9 : decode cL_cart 9 = .ok (.lastore, 1) := by decide +kernel
theorem dL_cart_10 : decode cL_cart 10 = .ok (.goto 7, 3) := by decide +kernel
theorem dL_cart_13 : decode cL_cart 13 = .ok (.astore 4, 2) := by decide +kernel
theorem dL_cart_15 : decode cL_cart 15 = .ok (.iconst 1, 1) := by decide +kernel
theorem dL_cart_16 : decode cL_cart 16 = .ok (.ireturn, 1) := by decide +kernel
theorem dL_cart_17 : decode cL_cart 17 = .ok (.iconst 0, 1) := by decide +kernel
theorem dL_cart_18 : decode cL_cart 18 = .ok (.ireturn, 1) := by decide +kernel
theorem dL_cell_0 : decode cL_cell 0 = .ok (.aload_n 3, 1) := by decide +kernel
theorem dL_cell_1 : decode cL_cell 1 = .ok (.iconst 0, 1) := by decide +kernel
theorem dL_cell_2 : decode cL_cell 2 = .ok (.aload_n 0, 1) := by decide +kernel
theorem dL_cell_3 : decode cL_cell 3 = .ok (.iload_n 1, 1) := by decide +kernel
theorem dL_cell_4 : decode cL_cell 4 = .ok (.iload_n 2, 1) := by decide +kernel
theorem dL_cell_5 : decode cL_cell 5 = .ok (.invokevirtual 18, 3) := by decide +kernel
theorem dL_cell_8 : decode cL_cell 8 = .ok (.i2l, 1) := by decide +kernel
theorem dL_cell_9 : decode cL_cell 9 = .ok (.lastore, 1) := by decide +kernel
theorem dL_cell_10 : decode cL_cell 10 = .ok (.goto 7, 3) := by decide +kernel
theorem dL_cell_13 : decode cL_cell 13 = .ok (.astore 4, 2) := by decide +kernel
theorem dL_cell_15 : decode cL_cell 15 = .ok (.iconst 1, 1) := by decide +kernel
theorem dL_cell_16 : decode cL_cell 16 = .ok (.ireturn, 1) := by decide +kernel
theorem dL_cell_17 : decode cL_cell 17 = .ok (.iconst 0, 1) := by decide +kernel
theorem dL_cell_18 : decode cL_cell 18 = .ok (.ireturn, 1) := by decide +kernel
abbrev k_X10_quarter : aw_K := (RX10, cX10_quarter, 3, (some .int), 6, 150)
def f_X10_quarter (F : Nat) (t : Nat) (a0 : Int32) (a1 : Int32) (μ : aw_M) : Option (ax_r) :=
  (f_X10_isQuarter F t a0 μ).bind fun r1 =>
  (if r1.1 = true then
  (if a1 < 0 then
  some (none, r1.2)
  else
  (if a1 ≤ 9 then
  (if 6 ≤ a1 then
  (f_X10_quarterTold F t a0 a1 r1.2).bind fun r2 =>
  some (some r2.1, r2.2)
  else
  (f_X10_quarterNow F t a0 a1 r1.2).bind fun r3 =>
  some (some r3.1, r3.2))
  else
  some (none, r1.2)))
  else
  some (none, r1.2))
theorem m_X10_quarter (l : Launch) (hfl : l.stackTraces = false) (F : Nat) (t : Nat) (ht : (aw_sh t).1 = 15) (a0 : Int32) (a1 : Int32) (μ : aw_M) : AXM l yX10_quarter cX10_quarter 3 6 150 [.ref t, .int a0, .int a1] μ (f_X10_quarter F t a0 a1 μ) := by
  refine ax_met [some (.ref t), some (.int a0), some (.int a1)] (by decide) (fun _ => rfl) (fun _ => Nat.le_of_ble_eq_true rfl) ?_
  show XW l (k_X10_quarter, 0, 0, 1) ax_Tg ax_Px 0 [some (.ref t), some (.int a0), some (.int a1)] [] μ 0 _
  unfold f_X10_quarter
  refine xw_aload_n (n := 1) dX10_quarter_0 rfl rfl ?_
  refine xw_iload_n (n := 2) dX10_quarter_1 rfl rfl ?_
  refine xw_callVz (n := 5) (as := [.int a0]) (st := []) (RX10, TX10, 12) 10 dX10_quarter_2 rfl rfl (m_X10_isQuarter l F t ht a0 μ) ht (by decide) rfl rfl cw_RX10_142 ⟨Nat.le_of_ble_eq_true rfl, Nat.le_of_ble_eq_true rfl⟩ (fun _ => Nat.le_of_ble_eq_true rfl) (fun r1 => ?_)
  refine xw_ifb_eq (n := 8) 18 dX10_quarter_5 (by decide) rfl ?_ ?_
  · exact ax_throw hfl rfl dX10_quarter_18 dX10_quarter_21 dX10_quarter_22 dX10_quarter_25 ⟨Nat.le_of_ble_eq_true rfl, Nat.le_of_ble_eq_true rfl⟩
  · refine xw_iload_n (n := 9) dX10_quarter_8 rfl rfl ?_
    refine xw_if_lt (n := 12) 18 dX10_quarter_9 (by decide) rfl ?_ ?_
    · exact ax_throw hfl rfl dX10_quarter_18 dX10_quarter_21 dX10_quarter_22 dX10_quarter_25 ⟨Nat.le_of_ble_eq_true rfl, Nat.le_of_ble_eq_true rfl⟩
    · refine xw_iload_n (n := 13) dX10_quarter_12 rfl rfl ?_
      refine xw_bipush (n := 15) 9 dX10_quarter_13 rfl (by decide) ?_
      refine xw_icmp_le (n := 18) 26 dX10_quarter_15 (by decide) rfl ?_ ?_
      · refine xw_iload_n (n := 27) dX10_quarter_26 rfl rfl ?_
        refine xw_bipush (n := 29) 6 dX10_quarter_27 rfl (by decide) ?_
        refine xw_icmp_ge (n := 32) 41 dX10_quarter_29 (by decide) rfl ?_ ?_
        · refine xw_aload_n (n := 42) dX10_quarter_41 rfl rfl ?_
          refine xw_iload_n (n := 43) dX10_quarter_42 rfl rfl ?_
          refine xw_iload_n (n := 44) dX10_quarter_43 rfl rfl ?_
          refine xw_callVi (n := 47) (as := [.int a0, .int a1]) (st := []) (RX10, TX10, 12) 10 dX10_quarter_44 rfl rfl (m_X10_quarterTold l F t ht a0 a1 r1.2) ht (by decide) rfl rfl cw_RX10_153 ⟨Nat.le_of_ble_eq_true rfl, Nat.le_of_ble_eq_true rfl⟩ (fun _ => Nat.le_of_ble_eq_true rfl) (fun r2 => ?_)
          exact ax_ret dX10_quarter_47 rfl
        · refine xw_aload_n (n := 33) dX10_quarter_32 rfl rfl ?_
          refine xw_iload_n (n := 34) dX10_quarter_33 rfl rfl ?_
          refine xw_iload_n (n := 35) dX10_quarter_34 rfl rfl ?_
          refine xw_callVi (n := 38) (as := [.int a0, .int a1]) (st := []) (RX10, TX10, 12) 10 dX10_quarter_35 rfl rfl (m_X10_quarterNow l F t ht a0 a1 r1.2) ht (by decide) rfl rfl cw_RX10_149 ⟨Nat.le_of_ble_eq_true rfl, Nat.le_of_ble_eq_true rfl⟩ (fun _ => Nat.le_of_ble_eq_true rfl) (fun r3 => ?_)
          refine xw_goto 47 dX10_quarter_38 (by decide) ?_
          exact ax_ret dX10_quarter_47 rfl
      · exact ax_throw hfl rfl dX10_quarter_18 dX10_quarter_21 dX10_quarter_22 dX10_quarter_25 ⟨Nat.le_of_ble_eq_true rfl, Nat.le_of_ble_eq_true rfl⟩
abbrev k_X10_cart : aw_K := (RX10, cX10_cart, 3, (some .int), 6, 150)
def f_X10_cart (F : Nat) (t : Nat) (a0 : Int32) (a1 : Int32) (μ : aw_M) : Option (ax_r) :=
  (f_X10_isCart F t a0 μ).bind fun r1 =>
  (if r1.1 = true then
  (if a1 < 0 then
  some (none, r1.2)
  else
  (if a1 ≤ 5 then
  (aw_sel ((a1 : Int32).toInt - 0) [(aw_g (aw_in a0 20) (some (some (r1.2.1 (aw_rf (aw_rf (aw_rf t 1) 0) 11) a0.toNatClampNeg), r1.2))), (aw_g (aw_in a0 20) (some (some (r1.2.1 (aw_rf (aw_rf (aw_rf t 1) 0) 10) a0.toNatClampNeg), r1.2))), (aw_g (aw_in a0 20) (some (some (r1.2.1 (aw_rf (aw_rf (aw_rf t 1) 4) 14) a0.toNatClampNeg), r1.2))), (aw_g (aw_in a0 20) (some (some (r1.2.1 (aw_rf (aw_rf (aw_rf t 1) 0) 13) a0.toNatClampNeg), r1.2))), (aw_g (aw_in a0 20) (some (some (r1.2.1 (aw_rf (aw_rf (aw_rf t 1) 4) 15) a0.toNatClampNeg), r1.2)))] (aw_g (aw_in a0 20) ((f_X1_isThere F (aw_rf (aw_rf t 1) 3) (r1.2.1 (aw_rf (aw_rf (aw_rf t 1) 0) 10) a0.toNatClampNeg) (r1.2.1 (aw_rf (aw_rf t 1) 4) 4) r1.2).bind fun r2 =>
  (if r2.1 = true then
  some (some 1, r2.2)
  else
  some (some 0, r2.2)))))
  else
  some (none, r1.2)))
  else
  some (none, r1.2))
theorem m_X10_cart (l : Launch) (hfl : l.stackTraces = false) (F : Nat) (t : Nat) (ht : (aw_sh t).1 = 15) (a0 : Int32) (a1 : Int32) (μ : aw_M) : AXM l yX10_cart cX10_cart 3 6 150 [.ref t, .int a0, .int a1] μ (f_X10_cart F t a0 a1 μ) := by
  refine ax_met [some (.ref t), some (.int a0), some (.int a1)] (by decide) (fun _ => rfl) (fun _ => Nat.le_of_ble_eq_true rfl) ?_
  show XW l (k_X10_cart, 0, 0, 1) ax_Tg ax_Px 0 [some (.ref t), some (.int a0), some (.int a1)] [] μ 0 _
  unfold f_X10_cart
  refine xw_aload_n (n := 1) dX10_cart_0 rfl rfl ?_
  refine xw_iload_n (n := 2) dX10_cart_1 rfl rfl ?_
  refine xw_callVz (n := 5) (as := [.int a0]) (st := []) (RX10, TX10, 12) 10 dX10_cart_2 rfl rfl (m_X10_isCart l F t ht a0 μ) ht (by decide) rfl rfl cw_RX10_156 ⟨Nat.le_of_ble_eq_true rfl, Nat.le_of_ble_eq_true rfl⟩ (fun _ => Nat.le_of_ble_eq_true rfl) (fun r1 => ?_)
  refine xw_ifb_eq (n := 8) 17 dX10_cart_5 (by decide) rfl ?_ ?_
  · exact ax_throw hfl rfl dX10_cart_17 dX10_cart_20 dX10_cart_21 dX10_cart_24 ⟨Nat.le_of_ble_eq_true rfl, Nat.le_of_ble_eq_true rfl⟩
  · refine xw_iload_n (n := 9) dX10_cart_8 rfl rfl ?_
    refine xw_if_lt (n := 12) 17 dX10_cart_9 (by decide) rfl ?_ ?_
    · exact ax_throw hfl rfl dX10_cart_17 dX10_cart_20 dX10_cart_21 dX10_cart_24 ⟨Nat.le_of_ble_eq_true rfl, Nat.le_of_ble_eq_true rfl⟩
    · refine xw_iload_n (n := 13) dX10_cart_12 rfl rfl ?_
      refine xw_iconst (n := 14) 5 dX10_cart_13 rfl (by decide) ?_
      refine xw_icmp_le (n := 17) 25 dX10_cart_14 (by decide) rfl ?_ ?_
      · refine xw_iload_n (n := 26) dX10_cart_25 rfl rfl ?_
        refine xw_tsw [60, 73, 86, 99, 112] 125 dX10_cart_26 (by decide) (by decide) (by decide) ⟨?_, ?_, ?_, ?_, ?_, trivial⟩ ?_
        · refine xw_aload_n (n := 61) dX10_cart_60 rfl rfl ?_
          refine xw_getR (n := 64) (RX10, TX10, 12) 10 1 dX10_cart_61 rfl ht (by decide) fd_RX10_19 ?_
          refine xw_getR (n := 67) (RX4, TX4, 5) 4 0 dX10_cart_64 rfl (sf_10_1 ht) (by decide) fd_RX10_54 ?_
          refine xw_getR (n := 70) (RX8, TX8, 20) 8 11 dX10_cart_67 rfl (sf_4_0 (sf_10_1 ht)) (by decide) fd_RX10_159 ?_
          refine xw_iload_n (n := 71) dX10_cart_70 rfl rfl ?_
          refine xw_iaload (n := 72) 20 dX10_cart_71 rfl (sf_8_11 (sf_4_0 (sf_10_1 ht))) ?_
          exact ax_ret dX10_cart_72 rfl
        · refine xw_aload_n (n := 74) dX10_cart_73 rfl rfl ?_
          refine xw_getR (n := 77) (RX10, TX10, 12) 10 1 dX10_cart_74 rfl ht (by decide) fd_RX10_19 ?_
          refine xw_getR (n := 80) (RX4, TX4, 5) 4 0 dX10_cart_77 rfl (sf_10_1 ht) (by decide) fd_RX10_54 ?_
          refine xw_getR (n := 83) (RX8, TX8, 20) 8 10 dX10_cart_80 rfl (sf_4_0 (sf_10_1 ht)) (by decide) fd_RX10_163 ?_
          refine xw_iload_n (n := 84) dX10_cart_83 rfl rfl ?_
          refine xw_iaload (n := 85) 20 dX10_cart_84 rfl (sf_8_10 (sf_4_0 (sf_10_1 ht))) ?_
          exact ax_ret dX10_cart_85 rfl
        · refine xw_aload_n (n := 87) dX10_cart_86 rfl rfl ?_
          refine xw_getR (n := 90) (RX10, TX10, 12) 10 1 dX10_cart_87 rfl ht (by decide) fd_RX10_19 ?_
          refine xw_getR (n := 93) (RX4, TX4, 5) 4 4 dX10_cart_90 rfl (sf_10_1 ht) (by decide) fd_RX10_166 ?_
          refine xw_getR (n := 96) (RX0, TX0, 20) 0 14 dX10_cart_93 rfl (sf_4_4 (sf_10_1 ht)) (by decide) fd_RX10_169 ?_
          refine xw_iload_n (n := 97) dX10_cart_96 rfl rfl ?_
          refine xw_iaload (n := 98) 20 dX10_cart_97 rfl (sf_0_14 (sf_4_4 (sf_10_1 ht))) ?_
          exact ax_ret dX10_cart_98 rfl
        · refine xw_aload_n (n := 100) dX10_cart_99 rfl rfl ?_
          refine xw_getR (n := 103) (RX10, TX10, 12) 10 1 dX10_cart_100 rfl ht (by decide) fd_RX10_19 ?_
          refine xw_getR (n := 106) (RX4, TX4, 5) 4 0 dX10_cart_103 rfl (sf_10_1 ht) (by decide) fd_RX10_54 ?_
          refine xw_getR (n := 109) (RX8, TX8, 20) 8 13 dX10_cart_106 rfl (sf_4_0 (sf_10_1 ht)) (by decide) fd_RX10_172 ?_
          refine xw_iload_n (n := 110) dX10_cart_109 rfl rfl ?_
          refine xw_iaload (n := 111) 20 dX10_cart_110 rfl (sf_8_13 (sf_4_0 (sf_10_1 ht))) ?_
          exact ax_ret dX10_cart_111 rfl
        · refine xw_aload_n (n := 113) dX10_cart_112 rfl rfl ?_
          refine xw_getR (n := 116) (RX10, TX10, 12) 10 1 dX10_cart_113 rfl ht (by decide) fd_RX10_19 ?_
          refine xw_getR (n := 119) (RX4, TX4, 5) 4 4 dX10_cart_116 rfl (sf_10_1 ht) (by decide) fd_RX10_166 ?_
          refine xw_getR (n := 122) (RX0, TX0, 20) 0 15 dX10_cart_119 rfl (sf_4_4 (sf_10_1 ht)) (by decide) fd_RX10_175 ?_
          refine xw_iload_n (n := 123) dX10_cart_122 rfl rfl ?_
          refine xw_iaload (n := 124) 20 dX10_cart_123 rfl (sf_0_15 (sf_4_4 (sf_10_1 ht))) ?_
          exact ax_ret dX10_cart_124 rfl
        · refine xw_aload_n (n := 126) dX10_cart_125 rfl rfl ?_
          refine xw_getR (n := 129) (RX10, TX10, 12) 10 1 dX10_cart_126 rfl ht (by decide) fd_RX10_19 ?_
          refine xw_getR (n := 132) (RX4, TX4, 5) 4 3 dX10_cart_129 rfl (sf_10_1 ht) (by decide) fd_RX10_60 ?_
          refine xw_aload_n (n := 133) dX10_cart_132 rfl rfl ?_
          refine xw_getR (n := 136) (RX10, TX10, 12) 10 1 dX10_cart_133 rfl ht (by decide) fd_RX10_19 ?_
          refine xw_getR (n := 139) (RX4, TX4, 5) 4 0 dX10_cart_136 rfl (sf_10_1 ht) (by decide) fd_RX10_54 ?_
          refine xw_getR (n := 142) (RX8, TX8, 20) 8 10 dX10_cart_139 rfl (sf_4_0 (sf_10_1 ht)) (by decide) fd_RX10_163 ?_
          refine xw_iload_n (n := 143) dX10_cart_142 rfl rfl ?_
          refine xw_iaload (n := 144) 20 dX10_cart_143 rfl (sf_8_10 (sf_4_0 (sf_10_1 ht))) ?_
          refine xw_aload_n (n := 145) dX10_cart_144 rfl rfl ?_
          refine xw_getR (n := 148) (RX10, TX10, 12) 10 1 dX10_cart_145 rfl ht (by decide) fd_RX10_19 ?_
          refine xw_getR (n := 151) (RX4, TX4, 5) 4 4 dX10_cart_148 rfl (sf_10_1 ht) (by decide) fd_RX10_166 ?_
          refine xw_getI (n := 154) (RX0, TX0, 20) 0 4 dX10_cart_151 rfl (sf_4_4 (sf_10_1 ht)) (by decide) fd_RX10_178 ?_
          refine xw_callVz (n := 157) (as := [.int (r1.2.1 (aw_rf (aw_rf (aw_rf t 1) 0) 10) a0.toNatClampNeg), .int (r1.2.1 (aw_rf (aw_rf t 1) 4) 4)]) (st := []) (RX1, TX1, 12) 1 dX10_cart_154 rfl rfl (m_X1_isThere l F (aw_rf (aw_rf t 1) 3) (sf_4_3 (sf_10_1 ht)) (r1.2.1 (aw_rf (aw_rf (aw_rf t 1) 0) 10) a0.toNatClampNeg) (r1.2.1 (aw_rf (aw_rf t 1) 4) 4) r1.2) (sf_4_3 (sf_10_1 ht)) (by decide) rfl rfl cw_RX10_180 ⟨Nat.le_of_ble_eq_true rfl, Nat.le_of_ble_eq_true rfl⟩ (fun _ => Nat.le_of_ble_eq_true rfl) (fun r2 => ?_)
          refine xw_ifb_eq (n := 160) 164 dX10_cart_157 (by decide) rfl ?_ ?_
          · refine xw_iconst (n := 165) 0 dX10_cart_164 rfl (by decide) ?_
            exact ax_ret dX10_cart_165 rfl
          · refine xw_iconst (n := 161) 1 dX10_cart_160 rfl (by decide) ?_
            refine xw_goto 165 dX10_cart_161 (by decide) ?_
            exact ax_ret dX10_cart_165 rfl
      · exact ax_throw hfl rfl dX10_cart_17 dX10_cart_20 dX10_cart_21 dX10_cart_24 ⟨Nat.le_of_ble_eq_true rfl, Nat.le_of_ble_eq_true rfl⟩
abbrev k_X10_cell : aw_K := (RX10, cX10_cell, 3, (some .int), 6, 150)
def f_X10_cell (F : Nat) (t : Nat) (a0 : Int32) (a1 : Int32) (μ : aw_M) : Option (ax_r) :=
  (f_X8_hasCell F (aw_rf (aw_rf t 1) 0) a0 μ).bind fun r1 =>
  (if r1.1 = true then
  (if a1 < 0 then
  some (none, r1.2)
  else
  (if a1 ≤ 5 then
  (aw_sel ((a1 : Int32).toInt - 0) [(aw_g (aw_in a0 100) (some (some (r1.2.1 (aw_rf (aw_rf (aw_rf t 1) 4) 16) a0.toNatClampNeg), r1.2))), (aw_g (aw_in a0 100) (some (some (r1.2.1 (aw_rf (aw_rf (aw_rf t 1) 0) 16) a0.toNatClampNeg), r1.2))), ((f_X8_hasOn F (aw_rf (aw_rf t 1) 0) 0 a0 r1.2).bind fun r2 =>
  (if r2.1 = true then
  some (some 1, r2.2)
  else
  some (some 0, r2.2))), ((f_X8_hasOn F (aw_rf (aw_rf t 1) 0) 1 a0 r1.2).bind fun r3 =>
  (if r3.1 = true then
  some (some 1, r3.2)
  else
  some (some 0, r3.2))), ((f_X8_hasOn F (aw_rf (aw_rf t 1) 0) 2 a0 r1.2).bind fun r4 =>
  (if r4.1 = true then
  some (some 1, r4.2)
  else
  some (some 0, r4.2)))] (aw_g (aw_in a0 100) (some (some (r1.2.1 (aw_rf (aw_rf (aw_rf t 1) 4) 17) a0.toNatClampNeg), r1.2))))
  else
  some (none, r1.2)))
  else
  some (none, r1.2))
theorem m_X10_cell (l : Launch) (hfl : l.stackTraces = false) (F : Nat) (t : Nat) (ht : (aw_sh t).1 = 15) (a0 : Int32) (a1 : Int32) (μ : aw_M) : AXM l yX10_cell cX10_cell 3 6 150 [.ref t, .int a0, .int a1] μ (f_X10_cell F t a0 a1 μ) := by
  refine ax_met [some (.ref t), some (.int a0), some (.int a1)] (by decide) (fun _ => rfl) (fun _ => Nat.le_of_ble_eq_true rfl) ?_
  show XW l (k_X10_cell, 0, 0, 1) ax_Tg ax_Px 0 [some (.ref t), some (.int a0), some (.int a1)] [] μ 0 _
  unfold f_X10_cell
  refine xw_aload_n (n := 1) dX10_cell_0 rfl rfl ?_
  refine xw_getR (n := 4) (RX10, TX10, 12) 10 1 dX10_cell_1 rfl ht (by decide) fd_RX10_19 ?_
  refine xw_getR (n := 7) (RX4, TX4, 5) 4 0 dX10_cell_4 rfl (sf_10_1 ht) (by decide) fd_RX10_54 ?_
  refine xw_iload_n (n := 8) dX10_cell_7 rfl rfl ?_
  refine xw_callVz (n := 11) (as := [.int a0]) (st := []) (RX8, TX8, 20) 8 dX10_cell_8 rfl rfl (m_X8_hasCell l F (aw_rf (aw_rf t 1) 0) (sf_4_0 (sf_10_1 ht)) a0 μ) (sf_4_0 (sf_10_1 ht)) (by decide) rfl rfl cw_RX10_186 ⟨Nat.le_of_ble_eq_true rfl, Nat.le_of_ble_eq_true rfl⟩ (fun _ => Nat.le_of_ble_eq_true rfl) (fun r1 => ?_)
  refine xw_ifb_eq (n := 14) 23 dX10_cell_11 (by decide) rfl ?_ ?_
  · exact ax_throw hfl rfl dX10_cell_23 dX10_cell_26 dX10_cell_27 dX10_cell_30 ⟨Nat.le_of_ble_eq_true rfl, Nat.le_of_ble_eq_true rfl⟩
  · refine xw_iload_n (n := 15) dX10_cell_14 rfl rfl ?_
    refine xw_if_lt (n := 18) 23 dX10_cell_15 (by decide) rfl ?_ ?_
    · exact ax_throw hfl rfl dX10_cell_23 dX10_cell_26 dX10_cell_27 dX10_cell_30 ⟨Nat.le_of_ble_eq_true rfl, Nat.le_of_ble_eq_true rfl⟩
    · refine xw_iload_n (n := 19) dX10_cell_18 rfl rfl ?_
      refine xw_iconst (n := 20) 5 dX10_cell_19 rfl (by decide) ?_
      refine xw_icmp_le (n := 23) 31 dX10_cell_20 (by decide) rfl ?_ ?_
      · refine xw_iload_n (n := 32) dX10_cell_31 rfl rfl ?_
        refine xw_tsw [68, 81, 94, 115, 136] 157 dX10_cell_32 (by decide) (by decide) (by decide) ⟨?_, ?_, ?_, ?_, ?_, trivial⟩ ?_
        · refine xw_aload_n (n := 69) dX10_cell_68 rfl rfl ?_
          refine xw_getR (n := 72) (RX10, TX10, 12) 10 1 dX10_cell_69 rfl ht (by decide) fd_RX10_19 ?_
          refine xw_getR (n := 75) (RX4, TX4, 5) 4 4 dX10_cell_72 rfl (sf_10_1 ht) (by decide) fd_RX10_166 ?_
          refine xw_getR (n := 78) (RX0, TX0, 20) 0 16 dX10_cell_75 rfl (sf_4_4 (sf_10_1 ht)) (by decide) fd_RX10_189 ?_
          refine xw_iload_n (n := 79) dX10_cell_78 rfl rfl ?_
          refine xw_iaload (n := 80) 100 dX10_cell_79 rfl (sf_0_16 (sf_4_4 (sf_10_1 ht))) ?_
          exact ax_ret dX10_cell_80 rfl
        · refine xw_aload_n (n := 82) dX10_cell_81 rfl rfl ?_
          refine xw_getR (n := 85) (RX10, TX10, 12) 10 1 dX10_cell_82 rfl ht (by decide) fd_RX10_19 ?_
          refine xw_getR (n := 88) (RX4, TX4, 5) 4 0 dX10_cell_85 rfl (sf_10_1 ht) (by decide) fd_RX10_54 ?_
          refine xw_getR (n := 91) (RX8, TX8, 20) 8 16 dX10_cell_88 rfl (sf_4_0 (sf_10_1 ht)) (by decide) fd_RX10_192 ?_
          refine xw_iload_n (n := 92) dX10_cell_91 rfl rfl ?_
          refine xw_iaload (n := 93) 100 dX10_cell_92 rfl (sf_8_16 (sf_4_0 (sf_10_1 ht))) ?_
          exact ax_ret dX10_cell_93 rfl
        · refine xw_aload_n (n := 95) dX10_cell_94 rfl rfl ?_
          refine xw_getR (n := 98) (RX10, TX10, 12) 10 1 dX10_cell_95 rfl ht (by decide) fd_RX10_19 ?_
          refine xw_getR (n := 101) (RX4, TX4, 5) 4 0 dX10_cell_98 rfl (sf_10_1 ht) (by decide) fd_RX10_54 ?_
          refine xw_iconst (n := 102) 0 dX10_cell_101 rfl (by decide) ?_
          refine xw_iload_n (n := 103) dX10_cell_102 rfl rfl ?_
          refine xw_callVz (n := 106) (as := [.int 0, .int a0]) (st := []) (RX8, TX8, 20) 8 dX10_cell_103 rfl rfl (m_X8_hasOn l F (aw_rf (aw_rf t 1) 0) (sf_4_0 (sf_10_1 ht)) 0 a0 r1.2) (sf_4_0 (sf_10_1 ht)) (by decide) rfl rfl cw_RX10_195 ⟨Nat.le_of_ble_eq_true rfl, Nat.le_of_ble_eq_true rfl⟩ (fun _ => Nat.le_of_ble_eq_true rfl) (fun r2 => ?_)
          refine xw_ifb_eq (n := 109) 113 dX10_cell_106 (by decide) rfl ?_ ?_
          · refine xw_iconst (n := 114) 0 dX10_cell_113 rfl (by decide) ?_
            exact ax_ret dX10_cell_114 rfl
          · refine xw_iconst (n := 110) 1 dX10_cell_109 rfl (by decide) ?_
            refine xw_goto 114 dX10_cell_110 (by decide) ?_
            exact ax_ret dX10_cell_114 rfl
        · refine xw_aload_n (n := 116) dX10_cell_115 rfl rfl ?_
          refine xw_getR (n := 119) (RX10, TX10, 12) 10 1 dX10_cell_116 rfl ht (by decide) fd_RX10_19 ?_
          refine xw_getR (n := 122) (RX4, TX4, 5) 4 0 dX10_cell_119 rfl (sf_10_1 ht) (by decide) fd_RX10_54 ?_
          refine xw_iconst (n := 123) 1 dX10_cell_122 rfl (by decide) ?_
          refine xw_iload_n (n := 124) dX10_cell_123 rfl rfl ?_
          refine xw_callVz (n := 127) (as := [.int 1, .int a0]) (st := []) (RX8, TX8, 20) 8 dX10_cell_124 rfl rfl (m_X8_hasOn l F (aw_rf (aw_rf t 1) 0) (sf_4_0 (sf_10_1 ht)) 1 a0 r1.2) (sf_4_0 (sf_10_1 ht)) (by decide) rfl rfl cw_RX10_195 ⟨Nat.le_of_ble_eq_true rfl, Nat.le_of_ble_eq_true rfl⟩ (fun _ => Nat.le_of_ble_eq_true rfl) (fun r3 => ?_)
          refine xw_ifb_eq (n := 130) 134 dX10_cell_127 (by decide) rfl ?_ ?_
          · refine xw_iconst (n := 135) 0 dX10_cell_134 rfl (by decide) ?_
            exact ax_ret dX10_cell_135 rfl
          · refine xw_iconst (n := 131) 1 dX10_cell_130 rfl (by decide) ?_
            refine xw_goto 135 dX10_cell_131 (by decide) ?_
            exact ax_ret dX10_cell_135 rfl
        · refine xw_aload_n (n := 137) dX10_cell_136 rfl rfl ?_
          refine xw_getR (n := 140) (RX10, TX10, 12) 10 1 dX10_cell_137 rfl ht (by decide) fd_RX10_19 ?_
          refine xw_getR (n := 143) (RX4, TX4, 5) 4 0 dX10_cell_140 rfl (sf_10_1 ht) (by decide) fd_RX10_54 ?_
          refine xw_iconst (n := 144) 2 dX10_cell_143 rfl (by decide) ?_
          refine xw_iload_n (n := 145) dX10_cell_144 rfl rfl ?_
          refine xw_callVz (n := 148) (as := [.int 2, .int a0]) (st := []) (RX8, TX8, 20) 8 dX10_cell_145 rfl rfl (m_X8_hasOn l F (aw_rf (aw_rf t 1) 0) (sf_4_0 (sf_10_1 ht)) 2 a0 r1.2) (sf_4_0 (sf_10_1 ht)) (by decide) rfl rfl cw_RX10_195 ⟨Nat.le_of_ble_eq_true rfl, Nat.le_of_ble_eq_true rfl⟩ (fun _ => Nat.le_of_ble_eq_true rfl) (fun r4 => ?_)
          refine xw_ifb_eq (n := 151) 155 dX10_cell_148 (by decide) rfl ?_ ?_
          · refine xw_iconst (n := 156) 0 dX10_cell_155 rfl (by decide) ?_
            exact ax_ret dX10_cell_156 rfl
          · refine xw_iconst (n := 152) 1 dX10_cell_151 rfl (by decide) ?_
            refine xw_goto 156 dX10_cell_152 (by decide) ?_
            exact ax_ret dX10_cell_156 rfl
        · refine xw_aload_n (n := 158) dX10_cell_157 rfl rfl ?_
          refine xw_getR (n := 161) (RX10, TX10, 12) 10 1 dX10_cell_158 rfl ht (by decide) fd_RX10_19 ?_
          refine xw_getR (n := 164) (RX4, TX4, 5) 4 4 dX10_cell_161 rfl (sf_10_1 ht) (by decide) fd_RX10_166 ?_
          refine xw_getR (n := 167) (RX0, TX0, 20) 0 17 dX10_cell_164 rfl (sf_4_4 (sf_10_1 ht)) (by decide) fd_RX10_198 ?_
          refine xw_iload_n (n := 168) dX10_cell_167 rfl rfl ?_
          refine xw_iaload (n := 169) 100 dX10_cell_168 rfl (sf_0_17 (sf_4_4 (sf_10_1 ht))) ?_
          exact ax_ret dX10_cell_169 rfl
      · exact ax_throw hfl rfl dX10_cell_23 dX10_cell_26 dX10_cell_27 dX10_cell_30 ⟨Nat.le_of_ble_eq_true rfl, Nat.le_of_ble_eq_true rfl⟩
theorem m_L_quarter (l : Launch) (hfl : l.stackTraces = false) (F : Nat) (t a3 : Nat) (ht : (aw_sh t).1 = 15) (ha : aw_sh a3 = (3, 1)) (a0 a1 : Int32) (μ : aw_M) : AMC l yL_quarter cL_quarter 5 [(0, 10, 13, 13)] 7 177 [.ref t, .int a0, .int a1, .ref a3] μ (ax_w (f_X10_quarter F t a0 a1 μ) a3) :=
  amc_wrap l (by decide) rfl (m_X10_quarter l hfl F t ht a0 a1 μ) ht ha rfl cw_RL_7 (by decide) dL_quarter_0 dL_quarter_1 dL_quarter_2 dL_quarter_3 dL_quarter_4 dL_quarter_5 dL_quarter_8 dL_quarter_9 dL_quarter_10 dL_quarter_13 dL_quarter_15 dL_quarter_16 dL_quarter_17 dL_quarter_18
theorem m_L_cart (l : Launch) (hfl : l.stackTraces = false) (F : Nat) (t a3 : Nat) (ht : (aw_sh t).1 = 15) (ha : aw_sh a3 = (3, 1)) (a0 a1 : Int32) (μ : aw_M) : AMC l yL_cart cL_cart 5 [(0, 10, 13, 13)] 7 177 [.ref t, .int a0, .int a1, .ref a3] μ (ax_w (f_X10_cart F t a0 a1 μ) a3) :=
  amc_wrap l (by decide) rfl (m_X10_cart l hfl F t ht a0 a1 μ) ht ha rfl cw_RL_15 (by decide) dL_cart_0 dL_cart_1 dL_cart_2 dL_cart_3 dL_cart_4 dL_cart_5 dL_cart_8 dL_cart_9 dL_cart_10 dL_cart_13 dL_cart_15 dL_cart_16 dL_cart_17 dL_cart_18
theorem m_L_cell (l : Launch) (hfl : l.stackTraces = false) (F : Nat) (t a3 : Nat) (ht : (aw_sh t).1 = 15) (ha : aw_sh a3 = (3, 1)) (a0 a1 : Int32) (μ : aw_M) : AMC l yL_cell cL_cell 5 [(0, 10, 13, 13)] 7 177 [.ref t, .int a0, .int a1, .ref a3] μ (ax_w (f_X10_cell F t a0 a1 μ) a3) :=
  amc_wrap l (by decide) rfl (m_X10_cell l hfl F t ht a0 a1 μ) ht ha rfl cw_RL_18 (by decide) dL_cell_0 dL_cell_1 dL_cell_2 dL_cell_3 dL_cell_4 dL_cell_5 dL_cell_8 dL_cell_9 dL_cell_10 dL_cell_13 dL_cell_15 dL_cell_16 dL_cell_17 dL_cell_18
