theorem tb_902 : Cond.code yX3_readOne cX3_readOne 6 (some .boolean) ∈ aw_TB := aw_tb 902 (by decide +kernel) (by decide +kernel)
theorem tb_899 : Cond.methodLink RX3 69 yX3_readOne ∈ aw_TB := aw_tb 899 (by decide +kernel) (by decide +kernel)
theorem tb_901 : Cond.instanceMethod yX3_readOne ∈ aw_TB := aw_tb 901 (by decide +kernel) (by decide +kernel)
theorem tbs_22 : Cond.selects RX3 yX3_readOne yX3_readOne ∈ aw_TB := aw_tbs 22 (by decide +kernel) (by decide +kernel)
theorem cw_RX3_69 : aw_cv RX3 69 yX3_readOne cX3_readOne 6 (some .boolean) 3 := ⟨⟨tb_902, tb_11, ⟨by decide, by decide⟩, by decide +kernel, tb_899⟩, tb_901, tbs_22⟩
theorem tb_921 : Cond.methodLink RX3 59 yX6_atKey ∈ aw_TB := aw_tb 921 (by decide +kernel) (by decide +kernel)
theorem cw_RX3_59 : aw_cv RX3 59 yX6_atKey cX6_atKey 2 (some .boolean) 1 := ⟨⟨tb_874, tb_2, ⟨by decide, by decide⟩, by decide +kernel, tb_921⟩, tb_872, tb_873⟩
theorem tb_898 : Cond.code yX3_readAll cX3_readAll 5 (some .boolean) ∈ aw_TB := aw_tb 898 (by decide +kernel) (by decide +kernel)
theorem tb_895 : Cond.methodLink RX3 56 yX3_readAll ∈ aw_TB := aw_tb 895 (by decide +kernel) (by decide +kernel)
theorem tb_897 : Cond.instanceMethod yX3_readAll ∈ aw_TB := aw_tb 897 (by decide +kernel) (by decide +kernel)
theorem tbs_21 : Cond.selects RX3 yX3_readAll yX3_readAll ∈ aw_TB := aw_tbs 21 (by decide +kernel) (by decide +kernel)
theorem cw_RX3_56 : aw_cv RX3 56 yX3_readAll cX3_readAll 5 (some .boolean) 3 := ⟨⟨tb_898, tb_11, ⟨by decide, by decide⟩, by decide +kernel, tb_895⟩, tb_897, tbs_21⟩
theorem tb_111 : Cond.fieldLink RX3 75 "OrangeFight$Tape" "key" "I" ∈ aw_TB := aw_tb 111 (by decide +kernel) (by decide +kernel)
theorem fd_RX3_75 : aw_fd (RX6, TX6, 13) 6 9 RX3 75 0 := ⟨rfl, by decide, tb_111, inTB_6, rfl⟩
theorem tb_920 : Cond.code yX3_readMeasure cX3_readMeasure 4 (some .boolean) ∈ aw_TB := aw_tb 920 (by decide +kernel) (by decide +kernel)
theorem tb_917 : Cond.methodLink RX3 85 yX3_readMeasure ∈ aw_TB := aw_tb 917 (by decide +kernel) (by decide +kernel)
theorem tb_919 : Cond.instanceMethod yX3_readMeasure ∈ aw_TB := aw_tb 919 (by decide +kernel) (by decide +kernel)
theorem tbs_25 : Cond.selects RX3 yX3_readMeasure yX3_readMeasure ∈ aw_TB := aw_tbs 25 (by decide +kernel) (by decide +kernel)
theorem cw_RX3_85 : aw_cv RX3 85 yX3_readMeasure cX3_readMeasure 4 (some .boolean) 2 := ⟨⟨tb_920, tb_11, ⟨by decide, by decide⟩, by decide +kernel, tb_917⟩, tb_919, tbs_25⟩
theorem tb_914 : Cond.code yX3_readJoins cX3_readJoins 4 (some .boolean) ∈ aw_TB := aw_tb 914 (by decide +kernel) (by decide +kernel)
theorem tb_911 : Cond.methodLink RX3 81 yX3_readJoins ∈ aw_TB := aw_tb 911 (by decide +kernel) (by decide +kernel)
theorem tb_913 : Cond.instanceMethod yX3_readJoins ∈ aw_TB := aw_tb 913 (by decide +kernel) (by decide +kernel)
theorem tbs_24 : Cond.selects RX3 yX3_readJoins yX3_readJoins ∈ aw_TB := aw_tbs 24 (by decide +kernel) (by decide +kernel)
theorem cw_RX3_81 : aw_cv RX3 81 yX3_readJoins cX3_readJoins 4 (some .boolean) 2 := ⟨⟨tb_914, tb_11, ⟨by decide, by decide⟩, by decide +kernel, tb_911⟩, tb_913, tbs_24⟩
theorem tb_894 : Cond.code yX3_readCond cX3_readCond 5 (some .boolean) ∈ aw_TB := aw_tb 894 (by decide +kernel) (by decide +kernel)
theorem tb_891 : Cond.methodLink RX3 45 yX3_readCond ∈ aw_TB := aw_tb 891 (by decide +kernel) (by decide +kernel)
theorem tb_893 : Cond.instanceMethod yX3_readCond ∈ aw_TB := aw_tb 893 (by decide +kernel) (by decide +kernel)
theorem tbs_20 : Cond.selects RX3 yX3_readCond yX3_readCond ∈ aw_TB := aw_tbs 20 (by decide +kernel) (by decide +kernel)
theorem cw_RX3_45 : aw_cv RX3 45 yX3_readCond cX3_readCond 5 (some .boolean) 3 := ⟨⟨tb_894, tb_11, ⟨by decide, by decide⟩, by decide +kernel, tb_891⟩, tb_893, tbs_20⟩
theorem tb_906 : Cond.methodLink RX3 78 yX6_passSign ∈ aw_TB := aw_tb 906 (by decide +kernel) (by decide +kernel)
theorem cw_RX3_78 : aw_cv RX3 78 yX6_passSign cX6_passSign 2 (some .boolean) 1 := ⟨⟨tb_758, tb_2, ⟨by decide, by decide⟩, by decide +kernel, tb_906⟩, tb_756, tb_757⟩
theorem tb_889 : Cond.methodLink RX3 36 yX3_forget ∈ aw_TB := aw_tb 889 (by decide +kernel) (by decide +kernel)
theorem cw_RX3_36 : aw_cv RX3 36 yX3_forget cX3_forget 1 none 0 := ⟨⟨tb_830, tb_11, ⟨by decide, by decide⟩, by decide +kernel, tb_889⟩, tb_828, tb_829⟩
theorem tb_890 : Cond.methodLink RX3 39 yX6_open ∈ aw_TB := aw_tb 890 (by decide +kernel) (by decide +kernel)
theorem cw_RX3_39 : aw_cv RX3 39 yX6_open cX6_open 2 none 1 := ⟨⟨tb_673, tb_2, ⟨by decide, by decide⟩, by decide +kernel, tb_890⟩, tb_671, tb_672⟩
theorem tb_1209 : Cond.code yX9_waitAt cX9_waitAt 4 (some .int) ∈ aw_TB := aw_tb 1209 (by decide +kernel) (by decide +kernel)
theorem tb_1206 : Cond.methodLink RX9 65 yX9_waitAt ∈ aw_TB := aw_tb 1206 (by decide +kernel) (by decide +kernel)
theorem tb_1208 : Cond.instanceMethod yX9_waitAt ∈ aw_TB := aw_tb 1208 (by decide +kernel) (by decide +kernel)
theorem tbs_49 : Cond.selects RX9 yX9_waitAt yX9_waitAt ∈ aw_TB := aw_tbs 49 (by decide +kernel) (by decide +kernel)
theorem cw_RX9_65 : aw_cv RX9 65 yX9_waitAt cX9_waitAt 4 (some .int) 1 := ⟨⟨tb_1209, tb_16, ⟨by decide, by decide⟩, by decide +kernel, tb_1206⟩, tb_1208, tbs_49⟩
theorem tb_573 : Cond.fieldLink RX9 44 "OrangeFight$TownPuzzles" "shortest" "I" ∈ aw_TB := aw_tb 573 (by decide +kernel) (by decide +kernel)
theorem fd_RX9_44 : aw_fd (RX9, TX9, 13) 9 4 RX9 44 0 := ⟨rfl, by decide, tb_573, inTB_9, rfl⟩
theorem tb_571 : Cond.fieldLink RX9 40 "OrangeFight$TownPuzzles" "carts" "I" ∈ aw_TB := aw_tb 571 (by decide +kernel) (by decide +kernel)
theorem fd_RX9_40 : aw_fd (RX9, TX9, 13) 9 2 RX9 40 0 := ⟨rfl, by decide, tb_571, inTB_9, rfl⟩
theorem tb_574 : Cond.fieldLink RX9 15 "OrangeFight$TownPuzzles" "row" "[I" ∈ aw_TB := aw_tb 574 (by decide +kernel) (by decide +kernel)
theorem fd_RX9_15 : aw_fd (RX9, TX9, 13) 9 5 RX9 15 2 := ⟨rfl, by decide, tb_574, inTB_9, rfl⟩
theorem sf_9_5 {a : Nat} (h : (aw_sh a).1 = 14) : aw_sh (aw_rf a 5) = (0, 8) := aw_fld 5 (ci := 9) h (by decide) rfl
theorem tb_575 : Cond.fieldLink RX9 18 "OrangeFight$TownPuzzles" "reached" "[I" ∈ aw_TB := aw_tb 575 (by decide +kernel) (by decide +kernel)
theorem fd_RX9_18 : aw_fd (RX9, TX9, 13) 9 6 RX9 18 2 := ⟨rfl, by decide, tb_575, inTB_9, rfl⟩
theorem sf_9_6 {a : Nat} (h : (aw_sh a).1 = 14) : aw_sh (aw_rf a 6) = (0, 8) := aw_fld 6 (ci := 9) h (by decide) rfl
theorem tb_1215 : Cond.code yX9_serve cX9_serve 5 none ∈ aw_TB := aw_tb 1215 (by decide +kernel) (by decide +kernel)
theorem tb_1212 : Cond.methodLink RX9 82 yX9_serve ∈ aw_TB := aw_tb 1212 (by decide +kernel) (by decide +kernel)
theorem tb_1214 : Cond.instanceMethod yX9_serve ∈ aw_TB := aw_tb 1214 (by decide +kernel) (by decide +kernel)
theorem tbs_50 : Cond.selects RX9 yX9_serve yX9_serve ∈ aw_TB := aw_tbs 50 (by decide +kernel) (by decide +kernel)
theorem cw_RX9_82 : aw_cv RX9 82 yX9_serve cX9_serve 5 none 2 := ⟨⟨tb_1215, tb_16, ⟨by decide, by decide⟩, by decide +kernel, tb_1212⟩, tb_1214, tbs_50⟩
theorem tb_1205 : Cond.code yX9_placeNext cX9_placeNext 6 none ∈ aw_TB := aw_tb 1205 (by decide +kernel) (by decide +kernel)
theorem tb_1202 : Cond.methodLink RX9 61 yX9_placeNext ∈ aw_TB := aw_tb 1202 (by decide +kernel) (by decide +kernel)
theorem tb_1204 : Cond.instanceMethod yX9_placeNext ∈ aw_TB := aw_tb 1204 (by decide +kernel) (by decide +kernel)
theorem tbs_48 : Cond.selects RX9 yX9_placeNext yX9_placeNext ∈ aw_TB := aw_tbs 48 (by decide +kernel) (by decide +kernel)
theorem cw_RX9_61 : aw_cv RX9 61 yX9_placeNext cX9_placeNext 6 none 3 := ⟨⟨tb_1205, tb_16, ⟨by decide, by decide⟩, by decide +kernel, tb_1202⟩, tb_1204, tbs_48⟩
theorem fp_RX9_44 : aw_fp (RX9, TX9, 13) 9 4 RX9 44 0 .int := ⟨fd_RX9_44, ⟨tyX9, tyX9_ok⟩, nmX9, rfl, by decide +kernel⟩
theorem tb_567 : Cond.fieldLink RX9 75 "OrangeFight$TownPuzzles" "ordered" "I" ∈ aw_TB := aw_tb 567 (by decide +kernel) (by decide +kernel)
theorem fd_RX9_75 : aw_fd (RX9, TX9, 13) 9 0 RX9 75 0 := ⟨rfl, by decide, tb_567, inTB_9, rfl⟩
theorem fp_RX9_75 : aw_fp (RX9, TX9, 13) 9 0 RX9 75 0 .int := ⟨fd_RX9_75, ⟨tyX9, tyX9_ok⟩, nmX9, rfl, by decide +kernel⟩
theorem tb_569 : Cond.fieldLink RX9 11 "OrangeFight$TownPuzzles" "order" "[I" ∈ aw_TB := aw_tb 569 (by decide +kernel) (by decide +kernel)
theorem fd_RX9_11 : aw_fd (RX9, TX9, 13) 9 1 RX9 11 2 := ⟨rfl, by decide, tb_569, inTB_9, rfl⟩
theorem cw_RX9_78 : aw_cn RX9 78 yX10_copyRow RX10 cX10_copyRow 2 none 2 := ⟨tb_776, tb_1, ⟨by decide, by decide⟩, by decide +kernel, by decide +kernel, tb_775⟩
theorem tb_180 : Cond.fieldLink RX9 34 "OrangeFight$Town" "carts" "I" ∈ aw_TB := aw_tb 180 (by decide +kernel) (by decide +kernel)
theorem fd_RX9_34 : aw_fd (RX8, TX8, 20) 8 4 RX9 34 0 := ⟨rfl, by decide, tb_180, inTB_8, rfl⟩
theorem fp_RX9_40 : aw_fp (RX9, TX9, 13) 9 2 RX9 40 0 .int := ⟨fd_RX9_40, ⟨tyX9, tyX9_ok⟩, nmX9, rfl, by decide +kernel⟩
theorem fp_RX9_41 : aw_fp (RX9, TX9, 13) 9 3 RX9 41 0 .int := ⟨fd_RX9_41, ⟨tyX9, tyX9_ok⟩, nmX9, rfl, by decide +kernel⟩
theorem tb_331 : Cond.fieldLink RX9 56 "OrangeFight$Ground" "apart" "[I" ∈ aw_TB := aw_tb 331 (by decide +kernel) (by decide +kernel)
theorem fd_RX9_56 : aw_fd (RX1, TX1, 12) 1 0 RX9 56 2 := ⟨rfl, by decide, tb_331, inTB_1, rfl⟩
theorem tb_615 : Cond.fieldLink RX10 48 "OrangeFight" "draftSaying" "LOrangeFight$Saying;" ∈ aw_TB := aw_tb 615 (by decide +kernel) (by decide +kernel)
theorem fd_RX10_48 : aw_fd (RX10, TX10, 12) 10 6 RX10 48 2 := ⟨rfl, by decide, tb_615, inTB_10, rfl⟩
theorem sf_10_6 {a : Nat} (h : (aw_sh a).1 = 15) : (aw_sh (aw_rf a 6)).1 = 8 := congrArg Prod.fst (aw_fld 6 (ci := 10) h (by decide) rfl)
theorem tb_888 : Cond.code yX3_readFrom cX3_readFrom 3 (some .boolean) ∈ aw_TB := aw_tb 888 (by decide +kernel) (by decide +kernel)
theorem tb_885 : Cond.methodLink RX10 129 yX3_readFrom ∈ aw_TB := aw_tb 885 (by decide +kernel) (by decide +kernel)
theorem tb_886 : Cond.instanceMethod yX3_readFrom ∈ aw_TB := aw_tb 886 (by decide +kernel) (by decide +kernel)
theorem tb_887 : Cond.selects RX3 yX3_readFrom yX3_readFrom ∈ aw_TB := aw_tb 887 (by decide +kernel) (by decide +kernel)
theorem cw_RX10_129 : aw_cv RX10 129 yX3_readFrom cX3_readFrom 3 (some .boolean) 2 := ⟨⟨tb_888, tb_11, ⟨by decide, by decide⟩, by decide +kernel, tb_885⟩, tb_886, tb_887⟩
theorem tb_303 : Cond.fieldLink RX10 136 "OrangeFight$Saying" "ones" "I" ∈ aw_TB := aw_tb 303 (by decide +kernel) (by decide +kernel)
theorem fd_RX10_136 : aw_fd (RX3, TX3, 6) 3 0 RX10 136 0 := ⟨rfl, by decide, tb_303, inTB_3, rfl⟩
theorem tb_922 : Cond.methodLink RX10 133 yX3_takeFrom ∈ aw_TB := aw_tb 922 (by decide +kernel) (by decide +kernel)
theorem cw_RX10_133 : aw_cv RX10 133 yX3_takeFrom cX3_takeFrom 2 none 1 := ⟨⟨tb_925, tb_11, ⟨by decide, by decide⟩, by decide +kernel, tb_922⟩, tb_923, tb_924⟩
theorem tb_474 : Cond.fieldLink RX10 60 "OrangeFight$Scene" "ground" "LOrangeFight$Ground;" ∈ aw_TB := aw_tb 474 (by decide +kernel) (by decide +kernel)
theorem fd_RX10_60 : aw_fd (RX4, TX4, 5) 4 3 RX10 60 2 := ⟨rfl, by decide, tb_474, inTB_4, rfl⟩
theorem tb_1200 : Cond.code yX9_findOrder cX9_findOrder 5 (some .int) ∈ aw_TB := aw_tb 1200 (by decide +kernel) (by decide +kernel)
theorem tb_1197 : Cond.methodLink RX10 277 yX9_findOrder ∈ aw_TB := aw_tb 1197 (by decide +kernel) (by decide +kernel)
theorem tb_1198 : Cond.instanceMethod yX9_findOrder ∈ aw_TB := aw_tb 1198 (by decide +kernel) (by decide +kernel)
theorem tb_1199 : Cond.selects RX9 yX9_findOrder yX9_findOrder ∈ aw_TB := aw_tb 1199 (by decide +kernel) (by decide +kernel)
theorem cw_RX10_277 : aw_cv RX10 277 yX9_findOrder cX9_findOrder 5 (some .int) 2 := ⟨⟨tb_1200, tb_16, ⟨by decide, by decide⟩, by decide +kernel, tb_1197⟩, tb_1198, tb_1199⟩
theorem dX3_readAll_0 : decode cX3_readAll 0 = .ok (.aload_n 0, 1) := by decide +kernel
theorem dX3_readAll_1 : decode cX3_readAll 1 = .ok (.aload_n 1, 1) := by decide +kernel
theorem dX3_readAll_2 : decode cX3_readAll 2 = .ok (.aload_n 2, 1) := by decide +kernel
theorem dX3_readAll_3 : decode cX3_readAll 3 = .ok (.iload_n 3, 1) := by decide +kernel
theorem dX3_readAll_4 : decode cX3_readAll 4 = .ok (.invokevirtual 69, 3) := by decide +kernel
theorem dX3_readAll_7 : decode cX3_readAll 7 = .ok (.ifCond .ne 5, 3) := by decide +kernel
theorem dX3_readAll_10 : decode cX3_readAll 10 = .ok (.iconst 0, 1) := by decide +kernel
theorem dX3_readAll_11 : decode cX3_readAll 11 = .ok (.ireturn, 1) := by decide +kernel
theorem dX3_readAll_12 : decode cX3_readAll 12 = .ok (.iconst 0, 1) := by decide +kernel
theorem dX3_readAll_13 : decode cX3_readAll 13 = .ok (.istore 4, 2) := by decide +kernel
theorem dX3_readAll_15 : decode cX3_readAll 15 = .ok (.iload 4, 2) := by decide +kernel
theorem dX3_readAll_17 : decode cX3_readAll 17 = .ok (.bipush 20, 2) := by decide +kernel
theorem dX3_readAll_19 : decode cX3_readAll 19 = .ok (.if_icmp .ge 43, 3) := by decide +kernel
theorem dX3_readAll_22 : decode cX3_readAll 22 = .ok (.aload_n 1, 1) := by decide +kernel
theorem dX3_readAll_23 : decode cX3_readAll 23 = .ok (.bipush 10, 2) := by decide +kernel
theorem dX3_readAll_25 : decode cX3_readAll 25 = .ok (.invokevirtual 59, 3) := by decide +kernel
theorem dX3_readAll_28 : decode cX3_readAll 28 = .ok (.ifCond .eq 34, 3) := by decide +kernel
theorem dX3_readAll_31 : decode cX3_readAll 31 = .ok (.aload_n 1, 1) := by decide +kernel
theorem dX3_readAll_32 : decode cX3_readAll 32 = .ok (.invokevirtual 62, 3) := by decide +kernel
theorem dX3_readAll_35 : decode cX3_readAll 35 = .ok (.aload_n 0, 1) := by decide +kernel
theorem dX3_readAll_36 : decode cX3_readAll 36 = .ok (.aload_n 1, 1) := by decide +kernel
theorem dX3_readAll_37 : decode cX3_readAll 37 = .ok (.aload_n 2, 1) := by decide +kernel
theorem dX3_readAll_38 : decode cX3_readAll 38 = .ok (.iload_n 3, 1) := by decide +kernel
theorem dX3_readAll_39 : decode cX3_readAll 39 = .ok (.invokevirtual 69, 3) := by decide +kernel
theorem dX3_readAll_42 : decode cX3_readAll 42 = .ok (.ifCond .ne 5, 3) := by decide +kernel
theorem dX3_readAll_45 : decode cX3_readAll 45 = .ok (.iconst 0, 1) := by decide +kernel
theorem dX3_readAll_46 : decode cX3_readAll 46 = .ok (.ireturn, 1) := by decide +kernel
theorem dX3_readAll_47 : decode cX3_readAll 47 = .ok (.aload_n 0, 1) := by decide +kernel
theorem dX3_readAll_48 : decode cX3_readAll 48 = .ok (.bipush 10, 2) := by decide +kernel
theorem dX3_readAll_50 : decode cX3_readAll 50 = .ok (.iconst 0, 1) := by decide +kernel
theorem dX3_readAll_51 : decode cX3_readAll 51 = .ok (.iconst 0, 1) := by decide +kernel
theorem dX3_readAll_52 : decode cX3_readAll 52 = .ok (.invokevirtual 65, 3) := by decide +kernel
theorem dX3_readAll_55 : decode cX3_readAll 55 = .ok (.pop, 1) := by decide +kernel
theorem dX3_readAll_56 : decode cX3_readAll 56 = .ok (.iinc 4 1, 3) := by decide +kernel
theorem dX3_readAll_59 : decode cX3_readAll 59 = .ok (.goto (-44), 3) := by decide +kernel
theorem dX3_readAll_62 : decode cX3_readAll 62 = .ok (.iconst 1, 1) := by decide +kernel
theorem dX3_readAll_63 : decode cX3_readAll 63 = .ok (.ireturn, 1) := by decide +kernel
theorem dX3_readCond_0 : decode cX3_readCond 0 = .ok (.aload_n 0, 1) := by decide +kernel
theorem dX3_readCond_1 : decode cX3_readCond 1 = .ok (.aload_n 1, 1) := by decide +kernel
theorem dX3_readCond_2 : decode cX3_readCond 2 = .ok (.aload_n 2, 1) := by decide +kernel
theorem dX3_readCond_3 : decode cX3_readCond 3 = .ok (.iload_n 3, 1) := by decide +kernel
theorem dX3_readCond_4 : decode cX3_readCond 4 = .ok (.invokevirtual 56, 3) := by decide +kernel
theorem dX3_readCond_7 : decode cX3_readCond 7 = .ok (.ifCond .ne 5, 3) := by decide +kernel
theorem dX3_readCond_10 : decode cX3_readCond 10 = .ok (.iconst 0, 1) := by decide +kernel
theorem dX3_readCond_11 : decode cX3_readCond 11 = .ok (.ireturn, 1) := by decide +kernel
theorem dX3_readCond_12 : decode cX3_readCond 12 = .ok (.iconst 0, 1) := by decide +kernel
theorem dX3_readCond_13 : decode cX3_readCond 13 = .ok (.istore 4, 2) := by decide +kernel
theorem dX3_readCond_15 : decode cX3_readCond 15 = .ok (.iload 4, 2) := by decide +kernel
theorem dX3_readCond_17 : decode cX3_readCond 17 = .ok (.bipush 20, 2) := by decide +kernel
theorem dX3_readCond_19 : decode cX3_readCond 19 = .ok (.if_icmp .ge 43, 3) := by decide +kernel
theorem dX3_readCond_22 : decode cX3_readCond 22 = .ok (.aload_n 1, 1) := by decide +kernel
theorem dX3_readCond_23 : decode cX3_readCond 23 = .ok (.bipush 9, 2) := by decide +kernel
theorem dX3_readCond_25 : decode cX3_readCond 25 = .ok (.invokevirtual 59, 3) := by decide +kernel
theorem dX3_readCond_28 : decode cX3_readCond 28 = .ok (.ifCond .eq 34, 3) := by decide +kernel
theorem dX3_readCond_31 : decode cX3_readCond 31 = .ok (.aload_n 1, 1) := by decide +kernel
theorem dX3_readCond_32 : decode cX3_readCond 32 = .ok (.invokevirtual 62, 3) := by decide +kernel
theorem dX3_readCond_35 : decode cX3_readCond 35 = .ok (.aload_n 0, 1) := by decide +kernel
theorem dX3_readCond_36 : decode cX3_readCond 36 = .ok (.aload_n 1, 1) := by decide +kernel
theorem dX3_readCond_37 : decode cX3_readCond 37 = .ok (.aload_n 2, 1) := by decide +kernel
theorem dX3_readCond_38 : decode cX3_readCond 38 = .ok (.iload_n 3, 1) := by decide +kernel
theorem dX3_readCond_39 : decode cX3_readCond 39 = .ok (.invokevirtual 56, 3) := by decide +kernel
theorem dX3_readCond_42 : decode cX3_readCond 42 = .ok (.ifCond .ne 5, 3) := by decide +kernel
theorem dX3_readCond_45 : decode cX3_readCond 45 = .ok (.iconst 0, 1) := by decide +kernel
theorem dX3_readCond_46 : decode cX3_readCond 46 = .ok (.ireturn, 1) := by decide +kernel
theorem dX3_readCond_47 : decode cX3_readCond 47 = .ok (.aload_n 0, 1) := by decide +kernel
theorem dX3_readCond_48 : decode cX3_readCond 48 = .ok (.bipush 9, 2) := by decide +kernel
theorem dX3_readCond_50 : decode cX3_readCond 50 = .ok (.iconst 0, 1) := by decide +kernel
theorem dX3_readCond_51 : decode cX3_readCond 51 = .ok (.iconst 0, 1) := by decide +kernel
theorem dX3_readCond_52 : decode cX3_readCond 52 = .ok (.invokevirtual 65, 3) := by decide +kernel
theorem dX3_readCond_55 : decode cX3_readCond 55 = .ok (.pop, 1) := by decide +kernel
theorem dX3_readCond_56 : decode cX3_readCond 56 = .ok (.iinc 4 1, 3) := by decide +kernel
theorem dX3_readCond_59 : decode cX3_readCond 59 = .ok (.goto (-44), 3) := by decide +kernel
theorem dX3_readCond_62 : decode cX3_readCond 62 = .ok (.iconst 1, 1) := by decide +kernel
theorem dX3_readCond_63 : decode cX3_readCond 63 = .ok (.ireturn, 1) := by decide +kernel
theorem dX3_readOne_0 : decode cX3_readOne 0 = .ok (.aload_n 1, 1) := by decide +kernel
theorem dX3_readOne_1 : decode cX3_readOne 1 = .ok (.bipush 40, 2) := by decide +kernel
theorem dX3_readOne_3 : decode cX3_readOne 3 = .ok (.invokevirtual 72, 3) := by decide +kernel
theorem dX3_readOne_6 : decode cX3_readOne 6 = .ok (.istore 4, 2) := by decide +kernel
theorem dX3_readOne_8 : decode cX3_readOne 8 = .ok (.iload 4, 2) := by decide +kernel
theorem dX3_readOne_10 : decode cX3_readOne 10 = .ok (.ifCond .ne 26, 3) := by decide +kernel
theorem dX3_readOne_13 : decode cX3_readOne 13 = .ok (.aload_n 1, 1) := by decide +kernel
theorem dX3_readOne_14 : decode cX3_readOne 14 = .ok (.getfield 49, 3) := by decide +kernel
theorem dX3_readOne_17 : decode cX3_readOne 17 = .ok (.iconst 1, 1) := by decide +kernel
theorem dX3_readOne_18 : decode cX3_readOne 18 = .ok (.if_icmp .ne 12, 3) := by decide +kernel
theorem dX3_readOne_21 : decode cX3_readOne 21 = .ok (.aload_n 1, 1) := by decide +kernel
theorem dX3_readOne_22 : decode cX3_readOne 22 = .ok (.getfield 75, 3) := by decide +kernel
theorem dX3_readOne_25 : decode cX3_readOne 25 = .ok (.bipush 11, 2) := by decide +kernel
theorem dX3_readOne_27 : decode cX3_readOne 27 = .ok (.if_icmp .ge 9, 3) := by decide +kernel
theorem dX3_readOne_30 : decode cX3_readOne 30 = .ok (.aload_n 1, 1) := by decide +kernel
theorem dX3_readOne_31 : decode cX3_readOne 31 = .ok (.iconst 1, 1) := by decide +kernel
theorem dX3_readOne_32 : decode cX3_readOne 32 = .ok (.invokevirtual 52, 3) := by decide +kernel
theorem dX3_readOne_35 : decode cX3_readOne 35 = .ok (.ireturn, 1) := by decide +kernel
theorem dX3_readOne_36 : decode cX3_readOne 36 = .ok (.aload_n 0, 1) := by decide +kernel
theorem dX3_readOne_37 : decode cX3_readOne 37 = .ok (.getfield 25, 3) := by decide +kernel
theorem dX3_readOne_40 : decode cX3_readOne 40 = .ok (.bipush 20, 2) := by decide +kernel
theorem dX3_readOne_42 : decode cX3_readOne 42 = .ok (.if_icmp .ge 9, 3) := by decide +kernel
theorem dX3_readOne_45 : decode cX3_readOne 45 = .ok (.iload_n 3, 1) := by decide +kernel
theorem dX3_readOne_46 : decode cX3_readOne 46 = .ok (.bipush 8, 2) := by decide +kernel
theorem dX3_readOne_48 : decode cX3_readOne 48 = .ok (.if_icmp .le 9, 3) := by decide +kernel
theorem dX3_readOne_51 : decode cX3_readOne 51 = .ok (.aload_n 1, 1) := by decide +kernel
theorem dX3_readOne_52 : decode cX3_readOne 52 = .ok (.iconst 4, 1) := by decide +kernel
theorem dX3_readOne_53 : decode cX3_readOne 53 = .ok (.invokevirtual 52, 3) := by decide +kernel
theorem dX3_readOne_56 : decode cX3_readOne 56 = .ok (.ireturn, 1) := by decide +kernel
theorem dX3_readOne_57 : decode cX3_readOne 57 = .ok (.aload_n 0, 1) := by decide +kernel
theorem dX3_readOne_58 : decode cX3_readOne 58 = .ok (.dup, 1) := by decide +kernel
theorem dX3_readOne_59 : decode cX3_readOne 59 = .ok (.getfield 25, 3) := by decide +kernel
theorem dX3_readOne_62 : decode cX3_readOne 62 = .ok (.iconst 1, 1) := by decide +kernel
theorem dX3_readOne_63 : decode cX3_readOne 63 = .ok (.iadd, 1) := by decide +kernel
theorem dX3_readOne_64 : decode cX3_readOne 64 = .ok (.putfield 25, 3) := by decide +kernel
theorem dX3_readOne_67 : decode cX3_readOne 67 = .ok (.aload_n 1, 1) := by decide +kernel
theorem dX3_readOne_68 : decode cX3_readOne 68 = .ok (.getfield 75, 3) := by decide +kernel
theorem dX3_readOne_71 : decode cX3_readOne 71 = .ok (.istore 5, 2) := by decide +kernel
theorem dX3_readOne_73 : decode cX3_readOne 73 = .ok (.aload_n 1, 1) := by decide +kernel
theorem dX3_readOne_74 : decode cX3_readOne 74 = .ok (.invokevirtual 62, 3) := by decide +kernel
theorem dX3_readOne_77 : decode cX3_readOne 77 = .ok (.iload 4, 2) := by decide +kernel
theorem dX3_readOne_79 : decode cX3_readOne 79 = .ok (.ifCond .eq 30, 3) := by decide +kernel
theorem dX3_readOne_82 : decode cX3_readOne 82 = .ok (.aload_n 0, 1) := by decide +kernel
theorem dX3_readOne_83 : decode cX3_readOne 83 = .ok (.aload_n 1, 1) := by decide +kernel
theorem dX3_readOne_84 : decode cX3_readOne 84 = .ok (.aload_n 2, 1) := by decide +kernel
theorem dX3_readOne_85 : decode cX3_readOne 85 = .ok (.iload_n 3, 1) := by decide +kernel
theorem dX3_readOne_86 : decode cX3_readOne 86 = .ok (.iconst 1, 1) := by decide +kernel
theorem dX3_readOne_87 : decode cX3_readOne 87 = .ok (.iadd, 1) := by decide +kernel
theorem dX3_readOne_88 : decode cX3_readOne 88 = .ok (.invokevirtual 45, 3) := by decide +kernel
theorem dX3_readOne_91 : decode cX3_readOne 91 = .ok (.ifCond .eq 16, 3) := by decide +kernel
theorem dX3_readOne_94 : decode cX3_readOne 94 = .ok (.aload_n 1, 1) := by decide +kernel
theorem dX3_readOne_95 : decode cX3_readOne 95 = .ok (.bipush 41, 2) := by decide +kernel
theorem dX3_readOne_97 : decode cX3_readOne 97 = .ok (.invokevirtual 78, 3) := by decide +kernel
theorem dX3_readOne_100 : decode cX3_readOne 100 = .ok (.ifCond .eq 7, 3) := by decide +kernel
theorem dX3_readOne_103 : decode cX3_readOne 103 = .ok (.iconst 1, 1) := by decide +kernel
theorem dX3_readOne_104 : decode cX3_readOne 104 = .ok (.goto 4, 3) := by decide +kernel
theorem dX3_readOne_107 : decode cX3_readOne 107 = .ok (.iconst 0, 1) := by decide +kernel
theorem dX3_readOne_108 : decode cX3_readOne 108 = .ok (.ireturn, 1) := by decide +kernel
theorem dX3_readOne_109 : decode cX3_readOne 109 = .ok (.iload 5, 2) := by decide +kernel
theorem dX3_readOne_111 : decode cX3_readOne 111 = .ok (.bipush 11, 2) := by decide +kernel
theorem dX3_readOne_113 : decode cX3_readOne 113 = .ok (.if_icmp .ne 32, 3) := by decide +kernel
theorem dX3_readOne_116 : decode cX3_readOne 116 = .ok (.aload_n 0, 1) := by decide +kernel
theorem dX3_readOne_117 : decode cX3_readOne 117 = .ok (.aload_n 1, 1) := by decide +kernel
theorem dX3_readOne_118 : decode cX3_readOne 118 = .ok (.aload_n 2, 1) := by decide +kernel
theorem dX3_readOne_119 : decode cX3_readOne 119 = .ok (.iload_n 3, 1) := by decide +kernel
theorem dX3_readOne_120 : decode cX3_readOne 120 = .ok (.iconst 1, 1) := by decide +kernel
theorem dX3_readOne_121 : decode cX3_readOne 121 = .ok (.iadd, 1) := by decide +kernel
theorem dX3_readOne_122 : decode cX3_readOne 122 = .ok (.invokevirtual 69, 3) := by decide +kernel
theorem dX3_readOne_125 : decode cX3_readOne 125 = .ok (.ifCond .eq 18, 3) := by decide +kernel
theorem dX3_readOne_128 : decode cX3_readOne 128 = .ok (.aload_n 0, 1) := by decide +kernel
theorem dX3_readOne_129 : decode cX3_readOne 129 = .ok (.bipush 11, 2) := by decide +kernel
theorem dX3_readOne_131 : decode cX3_readOne 131 = .ok (.iconst 0, 1) := by decide +kernel
theorem dX3_readOne_132 : decode cX3_readOne 132 = .ok (.iconst 0, 1) := by decide +kernel
theorem dX3_readOne_133 : decode cX3_readOne 133 = .ok (.invokevirtual 65, 3) := by decide +kernel
theorem dX3_readOne_136 : decode cX3_readOne 136 = .ok (.ifCond .eq 7, 3) := by decide +kernel
theorem dX3_readOne_139 : decode cX3_readOne 139 = .ok (.iconst 1, 1) := by decide +kernel
theorem dX3_readOne_140 : decode cX3_readOne 140 = .ok (.goto 4, 3) := by decide +kernel
theorem dX3_readOne_143 : decode cX3_readOne 143 = .ok (.iconst 0, 1) := by decide +kernel
theorem dX3_readOne_144 : decode cX3_readOne 144 = .ok (.ireturn, 1) := by decide +kernel
theorem dX3_readOne_145 : decode cX3_readOne 145 = .ok (.iload 5, 2) := by decide +kernel
theorem dX3_readOne_147 : decode cX3_readOne 147 = .ok (.bipush 12, 2) := by decide +kernel
theorem dX3_readOne_149 : decode cX3_readOne 149 = .ok (.if_icmp .ne 12, 3) := by decide +kernel
theorem dX3_readOne_152 : decode cX3_readOne 152 = .ok (.aload_n 0, 1) := by decide +kernel
theorem dX3_readOne_153 : decode cX3_readOne 153 = .ok (.bipush 12, 2) := by decide +kernel
theorem dX3_readOne_155 : decode cX3_readOne 155 = .ok (.iconst 0, 1) := by decide +kernel
theorem dX3_readOne_156 : decode cX3_readOne 156 = .ok (.iconst 0, 1) := by decide +kernel
theorem dX3_readOne_157 : decode cX3_readOne 157 = .ok (.invokevirtual 65, 3) := by decide +kernel
theorem dX3_readOne_160 : decode cX3_readOne 160 = .ok (.ireturn, 1) := by decide +kernel
theorem dX3_readOne_161 : decode cX3_readOne 161 = .ok (.iload 5, 2) := by decide +kernel
theorem dX3_readOne_163 : decode cX3_readOne 163 = .ok (.bipush 13, 2) := by decide +kernel
theorem dX3_readOne_165 : decode cX3_readOne 165 = .ok (.if_icmp .ne 12, 3) := by decide +kernel
theorem dX3_readOne_168 : decode cX3_readOne 168 = .ok (.aload_n 0, 1) := by decide +kernel
theorem dX3_readOne_169 : decode cX3_readOne 169 = .ok (.aload_n 1, 1) := by decide +kernel
theorem dX3_readOne_170 : decode cX3_readOne 170 = .ok (.aload_n 2, 1) := by decide +kernel
theorem dX3_readOne_171 : decode cX3_readOne 171 = .ok (.invokevirtual 81, 3) := by decide +kernel
theorem dX3_readOne_174 : decode cX3_readOne 174 = .ok (.goto 10, 3) := by decide +kernel
theorem dX3_readOne_177 : decode cX3_readOne 177 = .ok (.aload_n 0, 1) := by decide +kernel
theorem dX3_readOne_178 : decode cX3_readOne 178 = .ok (.aload_n 1, 1) := by decide +kernel
theorem dX3_readOne_179 : decode cX3_readOne 179 = .ok (.iload 5, 2) := by decide +kernel
theorem dX3_readOne_181 : decode cX3_readOne 181 = .ok (.invokevirtual 85, 3) := by decide +kernel
theorem dX3_readOne_184 : decode cX3_readOne 184 = .ok (.ireturn, 1) := by decide +kernel
theorem dX3_readFrom_0 : decode cX3_readFrom 0 = .ok (.aload_n 0, 1) := by decide +kernel
theorem dX3_readFrom_1 : decode cX3_readFrom 1 = .ok (.invokevirtual 36, 3) := by decide +kernel
theorem dX3_readFrom_4 : decode cX3_readFrom 4 = .ok (.aload_n 1, 1) := by decide +kernel
theorem dX3_readFrom_5 : decode cX3_readFrom 5 = .ok (.sipush 200, 3) := by decide +kernel
theorem dX3_readFrom_8 : decode cX3_readFrom 8 = .ok (.invokevirtual 39, 3) := by decide +kernel
theorem dX3_readFrom_11 : decode cX3_readFrom 11 = .ok (.aload_n 0, 1) := by decide +kernel
theorem dX3_readFrom_12 : decode cX3_readFrom 12 = .ok (.aload_n 1, 1) := by decide +kernel
theorem dX3_readFrom_13 : decode cX3_readFrom 13 = .ok (.aload_n 2, 1) := by decide +kernel
theorem dX3_readFrom_14 : decode cX3_readFrom 14 = .ok (.iconst 1, 1) := by decide +kernel
theorem dX3_readFrom_15 : decode cX3_readFrom 15 = .ok (.invokevirtual 45, 3) := by decide +kernel
theorem dX3_readFrom_18 : decode cX3_readFrom 18 = .ok (.ifCond .ne 5, 3) := by decide +kernel
theorem dX3_readFrom_21 : decode cX3_readFrom 21 = .ok (.iconst 0, 1) := by decide +kernel
theorem dX3_readFrom_22 : decode cX3_readFrom 22 = .ok (.ireturn, 1) := by decide +kernel
theorem dX3_readFrom_23 : decode cX3_readFrom 23 = .ok (.aload_n 1, 1) := by decide +kernel
theorem dX3_readFrom_24 : decode cX3_readFrom 24 = .ok (.getfield 49, 3) := by decide +kernel
theorem dX3_readFrom_27 : decode cX3_readFrom 27 = .ok (.iconst 4, 1) := by decide +kernel
theorem dX3_readFrom_28 : decode cX3_readFrom 28 = .ok (.if_icmp .eq 11, 3) := by decide +kernel
theorem dX3_readFrom_31 : decode cX3_readFrom 31 = .ok (.aload_n 1, 1) := by decide +kernel
theorem dX3_readFrom_32 : decode cX3_readFrom 32 = .ok (.iconst 1, 1) := by decide +kernel
theorem dX3_readFrom_33 : decode cX3_readFrom 33 = .ok (.invokevirtual 52, 3) := by decide +kernel
theorem dX3_readFrom_36 : decode cX3_readFrom 36 = .ok (.ifCond .eq 7, 3) := by decide +kernel
theorem dX3_readFrom_39 : decode cX3_readFrom 39 = .ok (.iconst 1, 1) := by decide +kernel
theorem dX3_readFrom_40 : decode cX3_readFrom 40 = .ok (.goto 4, 3) := by decide +kernel
theorem dX3_readFrom_43 : decode cX3_readFrom 43 = .ok (.iconst 0, 1) := by decide +kernel
theorem dX3_readFrom_44 : decode cX3_readFrom 44 = .ok (.ireturn, 1) := by decide +kernel
theorem dX9_placeNext_0 : decode cX9_placeNext 0 = .ok (.iload_n 3, 1) := by decide +kernel
theorem dX9_placeNext_1 : decode cX9_placeNext 1 = .ok (.aload_n 0, 1) := by decide +kernel
theorem dX9_placeNext_2 : decode cX9_placeNext 2 = .ok (.iload_n 1, 1) := by decide +kernel
theorem dX9_placeNext_3 : decode cX9_placeNext 3 = .ok (.invokevirtual 65, 3) := by decide +kernel
theorem dX9_placeNext_6 : decode cX9_placeNext 6 = .ok (.invokestatic 69, 3) := by decide +kernel
theorem dX9_placeNext_9 : decode cX9_placeNext 9 = .ok (.istore 4, 2) := by decide +kernel
theorem dX9_placeNext_11 : decode cX9_placeNext 11 = .ok (.iload 4, 2) := by decide +kernel
theorem dX9_placeNext_13 : decode cX9_placeNext 13 = .ok (.aload_n 0, 1) := by decide +kernel
theorem dX9_placeNext_14 : decode cX9_placeNext 14 = .ok (.getfield 44, 3) := by decide +kernel
theorem dX9_placeNext_17 : decode cX9_placeNext 17 = .ok (.if_icmp .ge 9, 3) := by decide +kernel
theorem dX9_placeNext_20 : decode cX9_placeNext 20 = .ok (.iload_n 1, 1) := by decide +kernel
theorem dX9_placeNext_21 : decode cX9_placeNext 21 = .ok (.bipush 8, 2) := by decide +kernel
theorem dX9_placeNext_23 : decode cX9_placeNext 23 = .ok (.if_icmp .le 4, 3) := by decide +kernel
theorem dX9_placeNext_26 : decode cX9_placeNext 26 = .ok (.return_, 1) := by decide +kernel
theorem dX9_placeNext_27 : decode cX9_placeNext 27 = .ok (.iload_n 1, 1) := by decide +kernel
theorem dX9_placeNext_28 : decode cX9_placeNext 28 = .ok (.aload_n 0, 1) := by decide +kernel
theorem dX9_placeNext_29 : decode cX9_placeNext 29 = .ok (.getfield 40, 3) := by decide +kernel
theorem dX9_placeNext_32 : decode cX9_placeNext 32 = .ok (.if_icmp .lt 29, 3) := by decide +kernel
theorem dX9_placeNext_35 : decode cX9_placeNext 35 = .ok (.aload_n 0, 1) := by decide +kernel
theorem dX9_placeNext_36 : decode cX9_placeNext 36 = .ok (.iload 4, 2) := by decide +kernel
theorem dX9_placeNext_38 : decode cX9_placeNext 38 = .ok (.putfield 44, 3) := by decide +kernel
theorem dX9_placeNext_41 : decode cX9_placeNext 41 = .ok (.aload_n 0, 1) := by decide +kernel
theorem dX9_placeNext_42 : decode cX9_placeNext 42 = .ok (.aload_n 0, 1) := by decide +kernel
theorem dX9_placeNext_43 : decode cX9_placeNext 43 = .ok (.getfield 40, 3) := by decide +kernel
theorem dX9_placeNext_46 : decode cX9_placeNext 46 = .ok (.putfield 75, 3) := by decide +kernel
theorem dX9_placeNext_49 : decode cX9_placeNext 49 = .ok (.aload_n 0, 1) := by decide +kernel
theorem dX9_placeNext_50 : decode cX9_placeNext 50 = .ok (.getfield 15, 3) := by decide +kernel
theorem dX9_placeNext_53 : decode cX9_placeNext 53 = .ok (.aload_n 0, 1) := by decide +kernel
theorem dX9_placeNext_54 : decode cX9_placeNext 54 = .ok (.getfield 11, 3) := by decide +kernel
theorem dX9_placeNext_57 : decode cX9_placeNext 57 = .ok (.invokestatic 78, 3) := by decide +kernel
theorem dX9_placeNext_60 : decode cX9_placeNext 60 = .ok (.return_, 1) := by decide +kernel
theorem dX9_placeNext_61 : decode cX9_placeNext 61 = .ok (.iconst 0, 1) := by decide +kernel
theorem dX9_placeNext_62 : decode cX9_placeNext 62 = .ok (.istore 5, 2) := by decide +kernel
theorem dX9_placeNext_64 : decode cX9_placeNext 64 = .ok (.iload 5, 2) := by decide +kernel
theorem dX9_placeNext_66 : decode cX9_placeNext 66 = .ok (.aload_n 0, 1) := by decide +kernel
theorem dX9_placeNext_67 : decode cX9_placeNext 67 = .ok (.getfield 40, 3) := by decide +kernel
theorem dX9_placeNext_70 : decode cX9_placeNext 70 = .ok (.if_icmp .ge 53, 3) := by decide +kernel
theorem dX9_placeNext_73 : decode cX9_placeNext 73 = .ok (.iload_n 2, 1) := by decide +kernel
theorem dX9_placeNext_74 : decode cX9_placeNext 74 = .ok (.iload 5, 2) := by decide +kernel
theorem dX9_placeNext_76 : decode cX9_placeNext 76 = .ok (.ishr, 1) := by decide +kernel
theorem dX9_placeNext_77 : decode cX9_placeNext 77 = .ok (.iconst 1, 1) := by decide +kernel
theorem dX9_placeNext_78 : decode cX9_placeNext 78 = .ok (.iand, 1) := by decide +kernel
theorem dX9_placeNext_79 : decode cX9_placeNext 79 = .ok (.ifCond .ne 38, 3) := by decide +kernel
theorem dX9_placeNext_82 : decode cX9_placeNext 82 = .ok (.aload_n 0, 1) := by decide +kernel
theorem dX9_placeNext_83 : decode cX9_placeNext 83 = .ok (.getfield 15, 3) := by decide +kernel
theorem dX9_placeNext_86 : decode cX9_placeNext 86 = .ok (.iload_n 1, 1) := by decide +kernel
theorem dX9_placeNext_87 : decode cX9_placeNext 87 = .ok (.iload 5, 2) := by decide +kernel
theorem dX9_placeNext_89 : decode cX9_placeNext 89 = .ok (.iastore, 1) := by decide +kernel
theorem dX9_placeNext_90 : decode cX9_placeNext 90 = .ok (.aload_n 0, 1) := by decide +kernel
theorem dX9_placeNext_91 : decode cX9_placeNext 91 = .ok (.iload_n 1, 1) := by decide +kernel
theorem dX9_placeNext_92 : decode cX9_placeNext 92 = .ok (.aload_n 0, 1) := by decide +kernel
theorem dX9_placeNext_93 : decode cX9_placeNext 93 = .ok (.getfield 18, 3) := by decide +kernel
theorem dX9_placeNext_96 : decode cX9_placeNext 96 = .ok (.iload 5, 2) := by decide +kernel
theorem dX9_placeNext_98 : decode cX9_placeNext 98 = .ok (.iaload, 1) := by decide +kernel
theorem dX9_placeNext_99 : decode cX9_placeNext 99 = .ok (.invokevirtual 82, 3) := by decide +kernel
theorem dX9_placeNext_102 : decode cX9_placeNext 102 = .ok (.aload_n 0, 1) := by decide +kernel
theorem dX9_placeNext_103 : decode cX9_placeNext 103 = .ok (.iload_n 1, 1) := by decide +kernel
theorem dX9_placeNext_104 : decode cX9_placeNext 104 = .ok (.iconst 1, 1) := by decide +kernel
theorem dX9_placeNext_105 : decode cX9_placeNext 105 = .ok (.iadd, 1) := by decide +kernel
theorem dX9_placeNext_106 : decode cX9_placeNext 106 = .ok (.iload_n 2, 1) := by decide +kernel
theorem dX9_placeNext_107 : decode cX9_placeNext 107 = .ok (.iconst 1, 1) := by decide +kernel
theorem dX9_placeNext_108 : decode cX9_placeNext 108 = .ok (.iload 5, 2) := by decide +kernel
theorem dX9_placeNext_110 : decode cX9_placeNext 110 = .ok (.ishl, 1) := by decide +kernel
theorem dX9_placeNext_111 : decode cX9_placeNext 111 = .ok (.ior, 1) := by decide +kernel
theorem dX9_placeNext_112 : decode cX9_placeNext 112 = .ok (.iload 4, 2) := by decide +kernel
theorem dX9_placeNext_114 : decode cX9_placeNext 114 = .ok (.invokevirtual 61, 3) := by decide +kernel
theorem dX9_placeNext_117 : decode cX9_placeNext 117 = .ok (.iinc 5 1, 3) := by decide +kernel
theorem dX9_placeNext_120 : decode cX9_placeNext 120 = .ok (.goto (-56), 3) := by decide +kernel
theorem dX9_placeNext_123 : decode cX9_placeNext 123 = .ok (.return_, 1) := by decide +kernel
theorem dX9_findOrder_0 : decode cX9_findOrder 0 = .ok (.aload_n 1, 1) := by decide +kernel
theorem dX9_findOrder_1 : decode cX9_findOrder 1 = .ok (.getfield 34, 3) := by decide +kernel
theorem dX9_findOrder_4 : decode cX9_findOrder 4 = .ok (.iconst 1, 1) := by decide +kernel
theorem dX9_findOrder_5 : decode cX9_findOrder 5 = .ok (.if_icmp .lt 12, 3) := by decide +kernel
theorem dX9_findOrder_8 : decode cX9_findOrder 8 = .ok (.aload_n 1, 1) := by decide +kernel
theorem dX9_findOrder_9 : decode cX9_findOrder 9 = .ok (.getfield 34, 3) := by decide +kernel
theorem dX9_findOrder_12 : decode cX9_findOrder 12 = .ok (.bipush 8, 2) := by decide +kernel
theorem dX9_findOrder_14 : decode cX9_findOrder 14 = .ok (.if_icmp .le 5, 3) := by decide +kernel
theorem dX9_findOrder_17 : decode cX9_findOrder 17 = .ok (.iconst (-1), 1) := by decide +kernel
theorem dX9_findOrder_18 : decode cX9_findOrder 18 = .ok (.ireturn, 1) := by decide +kernel
theorem dX9_findOrder_19 : decode cX9_findOrder 19 = .ok (.aload_n 0, 1) := by decide +kernel
theorem dX9_findOrder_20 : decode cX9_findOrder 20 = .ok (.aload_n 1, 1) := by decide +kernel
theorem dX9_findOrder_21 : decode cX9_findOrder 21 = .ok (.getfield 34, 3) := by decide +kernel
theorem dX9_findOrder_24 : decode cX9_findOrder 24 = .ok (.putfield 40, 3) := by decide +kernel
theorem dX9_findOrder_27 : decode cX9_findOrder 27 = .ok (.aload_n 0, 1) := by decide +kernel
theorem dX9_findOrder_28 : decode cX9_findOrder 28 = .ok (.iconst 0, 1) := by decide +kernel
theorem dX9_findOrder_29 : decode cX9_findOrder 29 = .ok (.putfield 41, 3) := by decide +kernel
theorem dX9_findOrder_32 : decode cX9_findOrder 32 = .ok (.aload_n 0, 1) := by decide +kernel
theorem dX9_findOrder_33 : decode cX9_findOrder 33 = .ok (.bipush 8, 2) := by decide +kernel
theorem dX9_findOrder_35 : decode cX9_findOrder 35 = .ok (.putfield 44, 3) := by decide +kernel
theorem dX9_findOrder_38 : decode cX9_findOrder 38 = .ok (.aload_n 0, 1) := by decide +kernel
theorem dX9_findOrder_39 : decode cX9_findOrder 39 = .ok (.getfield 21, 3) := by decide +kernel
theorem dX9_findOrder_42 : decode cX9_findOrder 42 = .ok (.iconst (-1), 1) := by decide +kernel
theorem dX9_findOrder_43 : decode cX9_findOrder 43 = .ok (.invokestatic 47, 3) := by decide +kernel
theorem dX9_findOrder_46 : decode cX9_findOrder 46 = .ok (.iconst 0, 1) := by decide +kernel
theorem dX9_findOrder_47 : decode cX9_findOrder 47 = .ok (.istore_n 3, 1) := by decide +kernel
theorem dX9_findOrder_48 : decode cX9_findOrder 48 = .ok (.iload_n 3, 1) := by decide +kernel
theorem dX9_findOrder_49 : decode cX9_findOrder 49 = .ok (.aload_n 0, 1) := by decide +kernel
theorem dX9_findOrder_50 : decode cX9_findOrder 50 = .ok (.getfield 40, 3) := by decide +kernel
theorem dX9_findOrder_53 : decode cX9_findOrder 53 = .ok (.if_icmp .ge 78, 3) := by decide +kernel
theorem dX9_findOrder_56 : decode cX9_findOrder 56 = .ok (.aload_n 0, 1) := by decide +kernel
theorem dX9_findOrder_57 : decode cX9_findOrder 57 = .ok (.getfield 18, 3) := by decide +kernel
theorem dX9_findOrder_60 : decode cX9_findOrder 60 = .ok (.iload_n 3, 1) := by decide +kernel
theorem dX9_findOrder_61 : decode cX9_findOrder 61 = .ok (.iconst 0, 1) := by decide +kernel
theorem dX9_findOrder_62 : decode cX9_findOrder 62 = .ok (.iastore, 1) := by decide +kernel
theorem dX9_findOrder_63 : decode cX9_findOrder 63 = .ok (.iconst 0, 1) := by decide +kernel
theorem dX9_findOrder_64 : decode cX9_findOrder 64 = .ok (.istore 4, 2) := by decide +kernel
theorem dX9_findOrder_66 : decode cX9_findOrder 66 = .ok (.iload 4, 2) := by decide +kernel
theorem dX9_findOrder_68 : decode cX9_findOrder 68 = .ok (.aload_n 1, 1) := by decide +kernel
theorem dX9_findOrder_69 : decode cX9_findOrder 69 = .ok (.getfield 53, 3) := by decide +kernel
theorem dX9_findOrder_72 : decode cX9_findOrder 72 = .ok (.if_icmp .ge 38, 3) := by decide +kernel
theorem dX9_findOrder_75 : decode cX9_findOrder 75 = .ok (.aload_n 2, 1) := by decide +kernel
theorem dX9_findOrder_76 : decode cX9_findOrder 76 = .ok (.getfield 56, 3) := by decide +kernel
theorem dX9_findOrder_79 : decode cX9_findOrder 79 = .ok (.iload 4, 2) := by decide +kernel
theorem dX9_findOrder_81 : decode cX9_findOrder 81 = .ok (.bipush 20, 2) := by decide +kernel
theorem dX9_findOrder_83 : decode cX9_findOrder 83 = .ok (.imul, 1) := by decide +kernel
theorem dX9_findOrder_84 : decode cX9_findOrder 84 = .ok (.iload_n 3, 1) := by decide +kernel
theorem dX9_findOrder_85 : decode cX9_findOrder 85 = .ok (.iadd, 1) := by decide +kernel
theorem dX9_findOrder_86 : decode cX9_findOrder 86 = .ok (.iaload, 1) := by decide +kernel
theorem dX9_findOrder_87 : decode cX9_findOrder 87 = .ok (.iconst 3, 1) := by decide +kernel
theorem dX9_findOrder_88 : decode cX9_findOrder 88 = .ok (.if_icmp .gt 16, 3) := by decide +kernel
theorem dX9_findOrder_91 : decode cX9_findOrder 91 = .ok (.aload_n 0, 1) := by decide +kernel
theorem dX9_findOrder_92 : decode cX9_findOrder 92 = .ok (.getfield 18, 3) := by decide +kernel
theorem dX9_findOrder_95 : decode cX9_findOrder 95 = .ok (.iload_n 3, 1) := by decide +kernel
theorem dX9_findOrder_96 : decode cX9_findOrder 96 = .ok (.dup2, 1) := by decide +kernel
theorem dX9_findOrder_97 : decode cX9_findOrder 97 = .ok (.iaload, 1) := by decide +kernel
theorem dX9_findOrder_98 : decode cX9_findOrder 98 = .ok (.iconst 1, 1) := by decide +kernel
theorem dX9_findOrder_99 : decode cX9_findOrder 99 = .ok (.iload 4, 2) := by decide +kernel
theorem dX9_findOrder_101 : decode cX9_findOrder 101 = .ok (.ishl, 1) := by decide +kernel
theorem dX9_findOrder_102 : decode cX9_findOrder 102 = .ok (.ior, 1) := by decide +kernel
theorem dX9_findOrder_103 : decode cX9_findOrder 103 = .ok (.iastore, 1) := by decide +kernel
theorem dX9_findOrder_104 : decode cX9_findOrder 104 = .ok (.iinc 4 1, 3) := by decide +kernel
theorem dX9_findOrder_107 : decode cX9_findOrder 107 = .ok (.goto (-41), 3) := by decide +kernel
theorem dX9_findOrder_110 : decode cX9_findOrder 110 = .ok (.aload_n 0, 1) := by decide +kernel
theorem dX9_findOrder_111 : decode cX9_findOrder 111 = .ok (.dup, 1) := by decide +kernel
theorem dX9_findOrder_112 : decode cX9_findOrder 112 = .ok (.getfield 41, 3) := by decide +kernel
theorem dX9_findOrder_115 : decode cX9_findOrder 115 = .ok (.aload_n 0, 1) := by decide +kernel
theorem dX9_findOrder_116 : decode cX9_findOrder 116 = .ok (.getfield 18, 3) := by decide +kernel
theorem dX9_findOrder_119 : decode cX9_findOrder 119 = .ok (.iload_n 3, 1) := by decide +kernel
theorem dX9_findOrder_120 : decode cX9_findOrder 120 = .ok (.iaload, 1) := by decide +kernel
theorem dX9_findOrder_121 : decode cX9_findOrder 121 = .ok (.ior, 1) := by decide +kernel
theorem dX9_findOrder_122 : decode cX9_findOrder 122 = .ok (.putfield 41, 3) := by decide +kernel
theorem dX9_findOrder_125 : decode cX9_findOrder 125 = .ok (.iinc 3 1, 3) := by decide +kernel
theorem dX9_findOrder_128 : decode cX9_findOrder 128 = .ok (.goto (-80), 3) := by decide +kernel
theorem dX9_findOrder_131 : decode cX9_findOrder 131 = .ok (.aload_n 0, 1) := by decide +kernel
theorem dX9_findOrder_132 : decode cX9_findOrder 132 = .ok (.iconst 0, 1) := by decide +kernel
theorem dX9_findOrder_133 : decode cX9_findOrder 133 = .ok (.iconst 0, 1) := by decide +kernel
theorem dX9_findOrder_134 : decode cX9_findOrder 134 = .ok (.iconst 0, 1) := by decide +kernel
theorem dX9_findOrder_135 : decode cX9_findOrder 135 = .ok (.invokevirtual 61, 3) := by decide +kernel
theorem dX9_findOrder_138 : decode cX9_findOrder 138 = .ok (.aload_n 0, 1) := by decide +kernel
theorem dX9_findOrder_139 : decode cX9_findOrder 139 = .ok (.getfield 44, 3) := by decide +kernel
theorem dX9_findOrder_142 : decode cX9_findOrder 142 = .ok (.ireturn, 1) := by decide +kernel
theorem dX10_sentence_0 : decode cX10_sentence 0 = .ok (.aload_n 0, 1) := by decide +kernel
theorem dX10_sentence_1 : decode cX10_sentence 1 = .ok (.getfield 48, 3) := by decide +kernel
theorem dX10_sentence_4 : decode cX10_sentence 4 = .ok (.aload_n 0, 1) := by decide +kernel
theorem dX10_sentence_5 : decode cX10_sentence 5 = .ok (.getfield 12, 3) := by decide +kernel
theorem dX10_sentence_8 : decode cX10_sentence 8 = .ok (.aload_n 0, 1) := by decide +kernel
theorem dX10_sentence_9 : decode cX10_sentence 9 = .ok (.getfield 19, 3) := by decide +kernel
theorem dX10_sentence_12 : decode cX10_sentence 12 = .ok (.getfield 54, 3) := by decide +kernel
theorem dX10_sentence_15 : decode cX10_sentence 15 = .ok (.invokevirtual 129, 3) := by decide +kernel
theorem dX10_sentence_18 : decode cX10_sentence 18 = .ok (.istore_n 1, 1) := by decide +kernel
theorem dX10_sentence_19 : decode cX10_sentence 19 = .ok (.iload_n 1, 1) := by decide +kernel
theorem dX10_sentence_20 : decode cX10_sentence 20 = .ok (.ifCond .eq 17, 3) := by decide +kernel
theorem dX10_sentence_23 : decode cX10_sentence 23 = .ok (.aload_n 0, 1) := by decide +kernel
theorem dX10_sentence_24 : decode cX10_sentence 24 = .ok (.getfield 19, 3) := by decide +kernel
theorem dX10_sentence_27 : decode cX10_sentence 27 = .ok (.getfield 130, 3) := by decide +kernel
theorem dX10_sentence_30 : decode cX10_sentence 30 = .ok (.aload_n 0, 1) := by decide +kernel
theorem dX10_sentence_31 : decode cX10_sentence 31 = .ok (.getfield 48, 3) := by decide +kernel
theorem dX10_sentence_34 : decode cX10_sentence 34 = .ok (.invokevirtual 133, 3) := by decide +kernel
theorem dX10_sentence_37 : decode cX10_sentence 37 = .ok (.aload_n 0, 1) := by decide +kernel
theorem dX10_sentence_38 : decode cX10_sentence 38 = .ok (.iload_n 1, 1) := by decide +kernel
theorem dX10_sentence_39 : decode cX10_sentence 39 = .ok (.aload_n 0, 1) := by decide +kernel
theorem dX10_sentence_40 : decode cX10_sentence 40 = .ok (.getfield 48, 3) := by decide +kernel
theorem dX10_sentence_43 : decode cX10_sentence 43 = .ok (.getfield 136, 3) := by decide +kernel
theorem dX10_sentence_46 : decode cX10_sentence 46 = .ok (.invokevirtual 115, 3) := by decide +kernel
theorem dX10_sentence_49 : decode cX10_sentence 49 = .ok (.ireturn, 1) := by decide +kernel
theorem dX10_order_0 : decode cX10_order 0 = .ok (.aload_n 0, 1) := by decide +kernel
theorem dX10_order_1 : decode cX10_order 1 = .ok (.getfield 88, 3) := by decide +kernel
theorem dX10_order_4 : decode cX10_order 4 = .ok (.aload_n 0, 1) := by decide +kernel
theorem dX10_order_5 : decode cX10_order 5 = .ok (.getfield 19, 3) := by decide +kernel
theorem dX10_order_8 : decode cX10_order 8 = .ok (.getfield 54, 3) := by decide +kernel
theorem dX10_order_11 : decode cX10_order 11 = .ok (.aload_n 0, 1) := by decide +kernel
theorem dX10_order_12 : decode cX10_order 12 = .ok (.getfield 19, 3) := by decide +kernel
theorem dX10_order_15 : decode cX10_order 15 = .ok (.getfield 60, 3) := by decide +kernel
theorem dX10_order_18 : decode cX10_order 18 = .ok (.invokevirtual 277, 3) := by decide +kernel
theorem dX10_order_21 : decode cX10_order 21 = .ok (.ireturn, 1) := by decide +kernel
abbrev k_X3_readAll (n : Nat) : aw_K := (RX3, cX3_readAll, 5, (some .boolean), 21 + 3 * n, 1050 + 200 * n)
def f_X3_readAll_15 (F : Nat) (r_X3_readOne : Nat → Nat → Nat → Int32 → aw_M → Option (Bool × aw_M)) (t a0 a1 : Nat) (k15 : Int32 × Int32 × aw_M → Option (Bool × aw_M)) (x3 : Int32) (x4 : Int32) (μ : aw_M) : Option (Bool × aw_M) :=
  (if 20 ≤ x4 then
  some (true, μ)
  else
  (f_X6_atKey F a0 10 μ).bind fun r7 =>
  (if r7.1 = true then
  (f_X6_step F a0 r7.2).bind fun r8 =>
  (r_X3_readOne t a0 a1 x3 r8).bind fun r9 =>
  (if r9.1 = true then
  (f_X3_addStep F t 10 0 0 r9.2).bind fun r10 =>
  k15 (x3, (x4 + 1), r10.2)
  else
  some (false, r9.2))
  else
  some (true, r7.2)))
theorem c_X3_readAll_15 (l : Launch) (F : Nat) (n : Nat) (r_X3_readOne : Nat → Nat → Nat → Int32 → aw_M → Option (Bool × aw_M)) (hr_X3_readOne : ∀ (t : Nat) (ht : (aw_sh t).1 = 8) (a0 : Nat) (ha0 : (aw_sh a0).1 = 11) (a1 : Nat) (ha1 : (aw_sh a1).1 = 13) (a2 : Int32) (μ : aw_M), AM l yX3_readOne cX3_readOne 6 (some .boolean) (20 + 3 * n) (1000 + 200 * n) aw_gz [.ref t, .ref a0, .ref a1, .int a2] μ (r_X3_readOne t a0 a1 a2 μ)) (t : Nat) (ht : (aw_sh t).1 = 8) (a0 : Nat) (ha0 : (aw_sh a0).1 = 11) (a1 : Nat) (ha1 : (aw_sh a1).1 = 13) : ∀ (N : Nat) (s : Int32 × Int32 × aw_M), AW l (k_X3_readAll n) aw_gz 15 [some (.ref t), some (.ref a0), some (.ref a1), some (.int s.1), some (.int s.2.1)] [] s.2.2 (aw_loop (fun k s => f_X3_readAll_15 F r_X3_readOne t a0 a1 k s.1 s.2.1 s.2.2) N s) := by
  refine aw_loop_ok (f := fun k s => f_X3_readAll_15 F r_X3_readOne t a0 a1 k s.1 s.2.1 s.2.2) (Ls := fun s => [some (.ref t), some (.ref a0), some (.ref a1), some (.int s.1), some (.int s.2.1)]) (ms := fun s => s.2.2) ?_
  intro k15 hk15 s
  obtain ⟨x3, x4, μ⟩ := s
  show AW l (k_X3_readAll n) aw_gz 15 [some (.ref t), some (.ref a0), some (.ref a1), some (.int x3), some (.int x4)] [] μ (f_X3_readAll_15 F r_X3_readOne t a0 a1 k15 x3 x4 μ)
  unfold f_X3_readAll_15
  refine aw_iload (n := 17) dX3_readAll_15 rfl rfl ?_
  refine aw_bipush (n := 19) 20 dX3_readAll_17 rfl (by decide) ?_
  refine aw_icmp_ge (n := 22) 62 dX3_readAll_19 (by decide) rfl ?_ ?_
  · refine aw_iconst (n := 63) 1 dX3_readAll_62 rfl (by decide) ?_
    exact aw_zreturn (b := true) dX3_readAll_63 rfl rfl
  · refine aw_aload_n (n := 23) dX3_readAll_22 rfl rfl ?_
    refine aw_bipush (n := 25) 10 dX3_readAll_23 rfl (by decide) ?_
    refine aw_callVz (n := 28) (as := [.int 10]) (st := []) (RX6, TX6, 13) 6 dX3_readAll_25 rfl rfl (m_X6_atKey l F a0 ha0 10 μ) ha0 (by decide) rfl rfl cw_RX3_59 ⟨(show (1) + 1 ≤ 21 + 3 * n by omega), (show 8 + (2 + 11) + (120) ≤ 1050 + 200 * n by omega)⟩ (fun _ => Nat.le_of_ble_eq_true rfl) (fun r7 => ?_)
    refine aw_ifb_eq (n := 31) 62 dX3_readAll_28 (by decide) rfl ?_ ?_
    · refine aw_iconst (n := 63) 1 dX3_readAll_62 rfl (by decide) ?_
      exact aw_zreturn (b := true) dX3_readAll_63 rfl rfl
    · refine aw_aload_n (n := 32) dX3_readAll_31 rfl rfl ?_
      refine aw_callVv (n := 35) (as := []) (st := []) (RX6, TX6, 13) 6 dX3_readAll_32 rfl rfl (m_X6_step l F a0 ha0 r7.2) ha0 (by decide) rfl rfl cw_RX3_62 ⟨(show (2) + 1 ≤ 21 + 3 * n by omega), (show 8 + (1 + 11) + (143) ≤ 1050 + 200 * n by omega)⟩ (fun _ => Nat.le_of_ble_eq_true rfl) (fun r8 => ?_)
      refine aw_aload_n (n := 36) dX3_readAll_35 rfl rfl ?_
      refine aw_aload_n (n := 37) dX3_readAll_36 rfl rfl ?_
      refine aw_aload_n (n := 38) dX3_readAll_37 rfl rfl ?_
      refine aw_iload_n (n := 39) dX3_readAll_38 rfl rfl ?_
      refine aw_callVz (n := 42) (as := [.ref a0, .ref a1, .int x3]) (st := []) (RX3, TX3, 6) 3 dX3_readAll_39 rfl rfl (hr_X3_readOne t ht a0 ha0 a1 ha1 x3 r8) ht (by decide) rfl rfl cw_RX3_69 ⟨(show (20 + 3 * n) + 1 ≤ 21 + 3 * n by omega), (show 8 + (6 + 11) + (1000 + 200 * n) ≤ 1050 + 200 * n by omega)⟩ (fun _ => Nat.le_of_ble_eq_true rfl) (fun r9 => ?_)
      refine aw_ifb_ne (n := 45) 47 dX3_readAll_42 (by decide) rfl ?_ ?_
      · refine aw_aload_n (n := 48) dX3_readAll_47 rfl rfl ?_
        refine aw_bipush (n := 50) 10 dX3_readAll_48 rfl (by decide) ?_
        refine aw_iconst (n := 51) 0 dX3_readAll_50 rfl (by decide) ?_
        refine aw_iconst (n := 52) 0 dX3_readAll_51 rfl (by decide) ?_
        refine aw_callVz (n := 55) (as := [.int 10, .int 0, .int 0]) (st := []) (RX3, TX3, 6) 3 dX3_readAll_52 rfl rfl (m_X3_addStep l F t ht 10 0 0 r9.2) ht (by decide) rfl rfl cw_RX3_65 ⟨(show (1) + 1 ≤ 21 + 3 * n by omega), (show 8 + (4 + 11) + (120) ≤ 1050 + 200 * n by omega)⟩ (fun _ => Nat.le_of_ble_eq_true rfl) (fun r10 => ?_)
        refine aw_pop (n := 56) dX3_readAll_55 rfl (fun _ => rfl) ?_
        refine aw_iinc (n := 59) (x4 + 1) [some (.ref t), some (.ref a0), some (.ref a1), some (.int x3), some (.int (x4 + 1))] dX3_readAll_56 rfl rfl (by rfl) rfl (Nat.le_of_ble_eq_true rfl) rfl ?_
        refine aw_goto 15 dX3_readAll_59 (by decide) ?_
        exact aw_weak (hk15 (x3, (x4 + 1), r10.2)) (aw_ss (aw_ss (aw_ss (aw_ss (aw_ss aw_s0)))))
      · refine aw_iconst (n := 46) 0 dX3_readAll_45 rfl (by decide) ?_
        exact aw_zreturn (b := false) dX3_readAll_46 rfl rfl
def g_X3_readAll (F : Nat) (r_X3_readOne : Nat → Nat → Nat → Int32 → aw_M → Option (Bool × aw_M)) (t a0 a1 : Nat) (a2 : Int32) (μ : aw_M) : Option (Bool × aw_M) :=
  (r_X3_readOne t a0 a1 a2 μ).bind fun r6 =>
  (if r6.1 = true then
  aw_loop (fun k s => f_X3_readAll_15 F r_X3_readOne t a0 a1 k s.1 s.2.1 s.2.2) F (a2, 0, r6.2)
  else
  some (false, r6.2))
theorem n_X3_readAll (l : Launch) (F : Nat) (n : Nat) (r_X3_readOne : Nat → Nat → Nat → Int32 → aw_M → Option (Bool × aw_M)) (hr_X3_readOne : ∀ (t : Nat) (ht : (aw_sh t).1 = 8) (a0 : Nat) (ha0 : (aw_sh a0).1 = 11) (a1 : Nat) (ha1 : (aw_sh a1).1 = 13) (a2 : Int32) (μ : aw_M), AM l yX3_readOne cX3_readOne 6 (some .boolean) (20 + 3 * n) (1000 + 200 * n) aw_gz [.ref t, .ref a0, .ref a1, .int a2] μ (r_X3_readOne t a0 a1 a2 μ)) (t : Nat) (ht : (aw_sh t).1 = 8) (a0 : Nat) (ha0 : (aw_sh a0).1 = 11) (a1 : Nat) (ha1 : (aw_sh a1).1 = 13) (a2 : Int32) (μ : aw_M) : AM l yX3_readAll cX3_readAll 5 (some .boolean) (21 + 3 * n) (1050 + 200 * n) aw_gz [.ref t, .ref a0, .ref a1, .int a2] μ (g_X3_readAll F r_X3_readOne t a0 a1 a2 μ) := by
  refine aw_met [some (.ref t), some (.ref a0), some (.ref a1), some (.int a2), none] (by decide) (fun _ => rfl) (fun _ => Nat.le_of_ble_eq_true rfl) ?_
  show AW l (k_X3_readAll n) aw_gz 0 [some (.ref t), some (.ref a0), some (.ref a1), some (.int a2), none] [] μ _
  unfold g_X3_readAll
  refine aw_aload_n (n := 1) dX3_readAll_0 rfl rfl ?_
  refine aw_aload_n (n := 2) dX3_readAll_1 rfl rfl ?_
  refine aw_aload_n (n := 3) dX3_readAll_2 rfl rfl ?_
  refine aw_iload_n (n := 4) dX3_readAll_3 rfl rfl ?_
  refine aw_callVz (n := 7) (as := [.ref a0, .ref a1, .int a2]) (st := []) (RX3, TX3, 6) 3 dX3_readAll_4 rfl rfl (hr_X3_readOne t ht a0 ha0 a1 ha1 a2 μ) ht (by decide) rfl rfl cw_RX3_69 ⟨(show (20 + 3 * n) + 1 ≤ 21 + 3 * n by omega), (show 8 + (6 + 11) + (1000 + 200 * n) ≤ 1050 + 200 * n by omega)⟩ (fun _ => Nat.le_of_ble_eq_true rfl) (fun r6 => ?_)
  refine aw_ifb_ne (n := 10) 12 dX3_readAll_7 (by decide) rfl ?_ ?_
  · refine aw_iconst (n := 13) 0 dX3_readAll_12 rfl (by decide) ?_
    refine aw_istore (n := 15) [some (.ref t), some (.ref a0), some (.ref a1), some (.int a2), some (.int 0)] dX3_readAll_13 rfl rfl (Nat.le_of_ble_eq_true rfl) (Nat.le_of_ble_eq_true rfl) rfl ?_
    exact aw_weak (c_X3_readAll_15 l F n r_X3_readOne hr_X3_readOne t ht a0 ha0 a1 ha1 F (a2, 0, r6.2)) (aw_ss (aw_ss (aw_ss (aw_ss (aw_ss aw_s0)))))
  · refine aw_iconst (n := 11) 0 dX3_readAll_10 rfl (by decide) ?_
    exact aw_zreturn (b := false) dX3_readAll_11 rfl rfl
abbrev k_X3_readCond (n : Nat) : aw_K := (RX3, cX3_readCond, 5, (some .boolean), 22 + 3 * n, 1100 + 200 * n)
def f_X3_readCond_15 (F : Nat) (r_X3_readAll : Nat → Nat → Nat → Int32 → aw_M → Option (Bool × aw_M)) (t a0 a1 : Nat) (k15 : Int32 × Int32 × aw_M → Option (Bool × aw_M)) (x3 : Int32) (x4 : Int32) (μ : aw_M) : Option (Bool × aw_M) :=
  (if 20 ≤ x4 then
  some (true, μ)
  else
  (f_X6_atKey F a0 9 μ).bind fun r7 =>
  (if r7.1 = true then
  (f_X6_step F a0 r7.2).bind fun r8 =>
  (r_X3_readAll t a0 a1 x3 r8).bind fun r9 =>
  (if r9.1 = true then
  (f_X3_addStep F t 9 0 0 r9.2).bind fun r10 =>
  k15 (x3, (x4 + 1), r10.2)
  else
  some (false, r9.2))
  else
  some (true, r7.2)))
theorem c_X3_readCond_15 (l : Launch) (F : Nat) (n : Nat) (r_X3_readAll : Nat → Nat → Nat → Int32 → aw_M → Option (Bool × aw_M)) (hr_X3_readAll : ∀ (t : Nat) (ht : (aw_sh t).1 = 8) (a0 : Nat) (ha0 : (aw_sh a0).1 = 11) (a1 : Nat) (ha1 : (aw_sh a1).1 = 13) (a2 : Int32) (μ : aw_M), AM l yX3_readAll cX3_readAll 5 (some .boolean) (21 + 3 * n) (1050 + 200 * n) aw_gz [.ref t, .ref a0, .ref a1, .int a2] μ (r_X3_readAll t a0 a1 a2 μ)) (t : Nat) (ht : (aw_sh t).1 = 8) (a0 : Nat) (ha0 : (aw_sh a0).1 = 11) (a1 : Nat) (ha1 : (aw_sh a1).1 = 13) : ∀ (N : Nat) (s : Int32 × Int32 × aw_M), AW l (k_X3_readCond n) aw_gz 15 [some (.ref t), some (.ref a0), some (.ref a1), some (.int s.1), some (.int s.2.1)] [] s.2.2 (aw_loop (fun k s => f_X3_readCond_15 F r_X3_readAll t a0 a1 k s.1 s.2.1 s.2.2) N s) := by
  refine aw_loop_ok (f := fun k s => f_X3_readCond_15 F r_X3_readAll t a0 a1 k s.1 s.2.1 s.2.2) (Ls := fun s => [some (.ref t), some (.ref a0), some (.ref a1), some (.int s.1), some (.int s.2.1)]) (ms := fun s => s.2.2) ?_
  intro k15 hk15 s
  obtain ⟨x3, x4, μ⟩ := s
  show AW l (k_X3_readCond n) aw_gz 15 [some (.ref t), some (.ref a0), some (.ref a1), some (.int x3), some (.int x4)] [] μ (f_X3_readCond_15 F r_X3_readAll t a0 a1 k15 x3 x4 μ)
  unfold f_X3_readCond_15
  refine aw_iload (n := 17) dX3_readCond_15 rfl rfl ?_
  refine aw_bipush (n := 19) 20 dX3_readCond_17 rfl (by decide) ?_
  refine aw_icmp_ge (n := 22) 62 dX3_readCond_19 (by decide) rfl ?_ ?_
  · refine aw_iconst (n := 63) 1 dX3_readCond_62 rfl (by decide) ?_
    exact aw_zreturn (b := true) dX3_readCond_63 rfl rfl
  · refine aw_aload_n (n := 23) dX3_readCond_22 rfl rfl ?_
    refine aw_bipush (n := 25) 9 dX3_readCond_23 rfl (by decide) ?_
    refine aw_callVz (n := 28) (as := [.int 9]) (st := []) (RX6, TX6, 13) 6 dX3_readCond_25 rfl rfl (m_X6_atKey l F a0 ha0 9 μ) ha0 (by decide) rfl rfl cw_RX3_59 ⟨(show (1) + 1 ≤ 22 + 3 * n by omega), (show 8 + (2 + 11) + (120) ≤ 1100 + 200 * n by omega)⟩ (fun _ => Nat.le_of_ble_eq_true rfl) (fun r7 => ?_)
    refine aw_ifb_eq (n := 31) 62 dX3_readCond_28 (by decide) rfl ?_ ?_
    · refine aw_iconst (n := 63) 1 dX3_readCond_62 rfl (by decide) ?_
      exact aw_zreturn (b := true) dX3_readCond_63 rfl rfl
    · refine aw_aload_n (n := 32) dX3_readCond_31 rfl rfl ?_
      refine aw_callVv (n := 35) (as := []) (st := []) (RX6, TX6, 13) 6 dX3_readCond_32 rfl rfl (m_X6_step l F a0 ha0 r7.2) ha0 (by decide) rfl rfl cw_RX3_62 ⟨(show (2) + 1 ≤ 22 + 3 * n by omega), (show 8 + (1 + 11) + (143) ≤ 1100 + 200 * n by omega)⟩ (fun _ => Nat.le_of_ble_eq_true rfl) (fun r8 => ?_)
      refine aw_aload_n (n := 36) dX3_readCond_35 rfl rfl ?_
      refine aw_aload_n (n := 37) dX3_readCond_36 rfl rfl ?_
      refine aw_aload_n (n := 38) dX3_readCond_37 rfl rfl ?_
      refine aw_iload_n (n := 39) dX3_readCond_38 rfl rfl ?_
      refine aw_callVz (n := 42) (as := [.ref a0, .ref a1, .int x3]) (st := []) (RX3, TX3, 6) 3 dX3_readCond_39 rfl rfl (hr_X3_readAll t ht a0 ha0 a1 ha1 x3 r8) ht (by decide) rfl rfl cw_RX3_56 ⟨(show (21 + 3 * n) + 1 ≤ 22 + 3 * n by omega), (show 8 + (5 + 11) + (1050 + 200 * n) ≤ 1100 + 200 * n by omega)⟩ (fun _ => Nat.le_of_ble_eq_true rfl) (fun r9 => ?_)
      refine aw_ifb_ne (n := 45) 47 dX3_readCond_42 (by decide) rfl ?_ ?_
      · refine aw_aload_n (n := 48) dX3_readCond_47 rfl rfl ?_
        refine aw_bipush (n := 50) 9 dX3_readCond_48 rfl (by decide) ?_
        refine aw_iconst (n := 51) 0 dX3_readCond_50 rfl (by decide) ?_
        refine aw_iconst (n := 52) 0 dX3_readCond_51 rfl (by decide) ?_
        refine aw_callVz (n := 55) (as := [.int 9, .int 0, .int 0]) (st := []) (RX3, TX3, 6) 3 dX3_readCond_52 rfl rfl (m_X3_addStep l F t ht 9 0 0 r9.2) ht (by decide) rfl rfl cw_RX3_65 ⟨(show (1) + 1 ≤ 22 + 3 * n by omega), (show 8 + (4 + 11) + (120) ≤ 1100 + 200 * n by omega)⟩ (fun _ => Nat.le_of_ble_eq_true rfl) (fun r10 => ?_)
        refine aw_pop (n := 56) dX3_readCond_55 rfl (fun _ => rfl) ?_
        refine aw_iinc (n := 59) (x4 + 1) [some (.ref t), some (.ref a0), some (.ref a1), some (.int x3), some (.int (x4 + 1))] dX3_readCond_56 rfl rfl (by rfl) rfl (Nat.le_of_ble_eq_true rfl) rfl ?_
        refine aw_goto 15 dX3_readCond_59 (by decide) ?_
        exact aw_weak (hk15 (x3, (x4 + 1), r10.2)) (aw_ss (aw_ss (aw_ss (aw_ss (aw_ss aw_s0)))))
      · refine aw_iconst (n := 46) 0 dX3_readCond_45 rfl (by decide) ?_
        exact aw_zreturn (b := false) dX3_readCond_46 rfl rfl
def g_X3_readCond (F : Nat) (r_X3_readAll : Nat → Nat → Nat → Int32 → aw_M → Option (Bool × aw_M)) (t a0 a1 : Nat) (a2 : Int32) (μ : aw_M) : Option (Bool × aw_M) :=
  (r_X3_readAll t a0 a1 a2 μ).bind fun r6 =>
  (if r6.1 = true then
  aw_loop (fun k s => f_X3_readCond_15 F r_X3_readAll t a0 a1 k s.1 s.2.1 s.2.2) F (a2, 0, r6.2)
  else
  some (false, r6.2))
theorem n_X3_readCond (l : Launch) (F : Nat) (n : Nat) (r_X3_readAll : Nat → Nat → Nat → Int32 → aw_M → Option (Bool × aw_M)) (hr_X3_readAll : ∀ (t : Nat) (ht : (aw_sh t).1 = 8) (a0 : Nat) (ha0 : (aw_sh a0).1 = 11) (a1 : Nat) (ha1 : (aw_sh a1).1 = 13) (a2 : Int32) (μ : aw_M), AM l yX3_readAll cX3_readAll 5 (some .boolean) (21 + 3 * n) (1050 + 200 * n) aw_gz [.ref t, .ref a0, .ref a1, .int a2] μ (r_X3_readAll t a0 a1 a2 μ)) (t : Nat) (ht : (aw_sh t).1 = 8) (a0 : Nat) (ha0 : (aw_sh a0).1 = 11) (a1 : Nat) (ha1 : (aw_sh a1).1 = 13) (a2 : Int32) (μ : aw_M) : AM l yX3_readCond cX3_readCond 5 (some .boolean) (22 + 3 * n) (1100 + 200 * n) aw_gz [.ref t, .ref a0, .ref a1, .int a2] μ (g_X3_readCond F r_X3_readAll t a0 a1 a2 μ) := by
  refine aw_met [some (.ref t), some (.ref a0), some (.ref a1), some (.int a2), none] (by decide) (fun _ => rfl) (fun _ => Nat.le_of_ble_eq_true rfl) ?_
  show AW l (k_X3_readCond n) aw_gz 0 [some (.ref t), some (.ref a0), some (.ref a1), some (.int a2), none] [] μ _
  unfold g_X3_readCond
  refine aw_aload_n (n := 1) dX3_readCond_0 rfl rfl ?_
  refine aw_aload_n (n := 2) dX3_readCond_1 rfl rfl ?_
  refine aw_aload_n (n := 3) dX3_readCond_2 rfl rfl ?_
  refine aw_iload_n (n := 4) dX3_readCond_3 rfl rfl ?_
  refine aw_callVz (n := 7) (as := [.ref a0, .ref a1, .int a2]) (st := []) (RX3, TX3, 6) 3 dX3_readCond_4 rfl rfl (hr_X3_readAll t ht a0 ha0 a1 ha1 a2 μ) ht (by decide) rfl rfl cw_RX3_56 ⟨(show (21 + 3 * n) + 1 ≤ 22 + 3 * n by omega), (show 8 + (5 + 11) + (1050 + 200 * n) ≤ 1100 + 200 * n by omega)⟩ (fun _ => Nat.le_of_ble_eq_true rfl) (fun r6 => ?_)
  refine aw_ifb_ne (n := 10) 12 dX3_readCond_7 (by decide) rfl ?_ ?_
  · refine aw_iconst (n := 13) 0 dX3_readCond_12 rfl (by decide) ?_
    refine aw_istore (n := 15) [some (.ref t), some (.ref a0), some (.ref a1), some (.int a2), some (.int 0)] dX3_readCond_13 rfl rfl (Nat.le_of_ble_eq_true rfl) (Nat.le_of_ble_eq_true rfl) rfl ?_
    exact aw_weak (c_X3_readCond_15 l F n r_X3_readAll hr_X3_readAll t ht a0 ha0 a1 ha1 F (a2, 0, r6.2)) (aw_ss (aw_ss (aw_ss (aw_ss (aw_ss aw_s0)))))
  · refine aw_iconst (n := 11) 0 dX3_readCond_10 rfl (by decide) ?_
    exact aw_zreturn (b := false) dX3_readCond_11 rfl rfl
abbrev k_X3_readOne (n : Nat) : aw_K := (RX3, cX3_readOne, 6, (some .boolean), 20 + 3 * (n + 1), 1000 + 200 * (n + 1))
def f_X3_readOne_51 (F : Nat) (r_X3_readCond : Nat → Nat → Nat → Int32 → aw_M → Option (Bool × aw_M)) (r_X3_readOne : Nat → Nat → Nat → Int32 → aw_M → Option (Bool × aw_M)) (t a0 a1 : Nat) (μ : aw_M) : Option (Bool × aw_M) :=
  (f_X6_fail F a0 4 μ).bind fun r15 =>
  some (r15.1, r15.2)
theorem c_X3_readOne_51 (l : Launch) (F : Nat) (n : Nat) (r_X3_readCond : Nat → Nat → Nat → Int32 → aw_M → Option (Bool × aw_M)) (hr_X3_readCond : ∀ (t : Nat) (ht : (aw_sh t).1 = 8) (a0 : Nat) (ha0 : (aw_sh a0).1 = 11) (a1 : Nat) (ha1 : (aw_sh a1).1 = 13) (a2 : Int32) (μ : aw_M), AM l yX3_readCond cX3_readCond 5 (some .boolean) (22 + 3 * n) (1100 + 200 * n) aw_gz [.ref t, .ref a0, .ref a1, .int a2] μ (r_X3_readCond t a0 a1 a2 μ)) (r_X3_readOne : Nat → Nat → Nat → Int32 → aw_M → Option (Bool × aw_M)) (hr_X3_readOne : ∀ (t : Nat) (ht : (aw_sh t).1 = 8) (a0 : Nat) (ha0 : (aw_sh a0).1 = 11) (a1 : Nat) (ha1 : (aw_sh a1).1 = 13) (a2 : Int32) (μ : aw_M), AM l yX3_readOne cX3_readOne 6 (some .boolean) (20 + 3 * n) (1000 + 200 * n) aw_gz [.ref t, .ref a0, .ref a1, .int a2] μ (r_X3_readOne t a0 a1 a2 μ)) (t : Nat) (ht : (aw_sh t).1 = 8) (a0 : Nat) (ha0 : (aw_sh a0).1 = 11) (a1 : Nat) (ha1 : (aw_sh a1).1 = 13) (μ : aw_M) : AW l (k_X3_readOne n) aw_gz 51 [none, some (.ref a0), none, none, none, none] [] μ (f_X3_readOne_51 F r_X3_readCond r_X3_readOne t a0 a1 μ) := by
  unfold f_X3_readOne_51
  refine aw_aload_n (n := 52) dX3_readOne_51 rfl rfl ?_
  refine aw_iconst (n := 53) 4 dX3_readOne_52 rfl (by decide) ?_
  refine aw_callVz (n := 56) (as := [.int 4]) (st := []) (RX6, TX6, 13) 6 dX3_readOne_53 rfl rfl (m_X6_fail l F a0 ha0 4 μ) ha0 (by decide) rfl rfl cw_RX3_52 ⟨(show (1) + 1 ≤ 20 + 3 * (n + 1) by omega), (show 8 + (2 + 11) + (120) ≤ 1000 + 200 * (n + 1) by omega)⟩ (fun _ => Nat.le_of_ble_eq_true rfl) (fun r15 => ?_)
  exact aw_zreturn (b := r15.1) dX3_readOne_56 rfl rfl
def f_X3_readOne_36 (F : Nat) (r_X3_readCond : Nat → Nat → Nat → Int32 → aw_M → Option (Bool × aw_M)) (r_X3_readOne : Nat → Nat → Nat → Int32 → aw_M → Option (Bool × aw_M)) (t a0 a1 : Nat) (x3 : Int32) (x4 : Bool) (μ : aw_M) : Option (Bool × aw_M) :=
  (if 20 ≤ (μ.1 t 0) then
  f_X3_readOne_51 F r_X3_readCond r_X3_readOne t a0 a1 μ
  else
  (if x3 ≤ 8 then
  aw_let (aw_wI μ t 0 ((μ.1 t 0) + 1)) fun μ16 =>
  aw_let ((μ16.1 a0 9)) fun v17 =>
  (f_X6_step F a0 μ16).bind fun r18 =>
  (if x4 = true then
  (r_X3_readCond t a0 a1 (x3 + 1) r18).bind fun r24 =>
  (if r24.1 = true then
  (f_X6_passSign F a0 41 r24.2).bind fun r25 =>
  (if r25.1 = true then
  some (true, r25.2)
  else
  some (false, r25.2))
  else
  some (false, r24.2))
  else
  (if v17 = 11 then
  (r_X3_readOne t a0 a1 (x3 + 1) r18).bind fun r22 =>
  (if r22.1 = true then
  (f_X3_addStep F t 11 0 0 r22.2).bind fun r23 =>
  (if r23.1 = true then
  some (true, r23.2)
  else
  some (false, r23.2))
  else
  some (false, r22.2))
  else
  (if v17 = 12 then
  (f_X3_addStep F t 12 0 0 r18).bind fun r21 =>
  some (r21.1, r21.2)
  else
  (if v17 = 13 then
  (f_X3_readJoins F t a0 a1 r18).bind fun r20 =>
  some (r20.1, r20.2)
  else
  (f_X3_readMeasure F t a0 v17 r18).bind fun r19 =>
  some (r19.1, r19.2)))))
  else
  f_X3_readOne_51 F r_X3_readCond r_X3_readOne t a0 a1 μ))
theorem c_X3_readOne_36 (l : Launch) (F : Nat) (n : Nat) (r_X3_readCond : Nat → Nat → Nat → Int32 → aw_M → Option (Bool × aw_M)) (hr_X3_readCond : ∀ (t : Nat) (ht : (aw_sh t).1 = 8) (a0 : Nat) (ha0 : (aw_sh a0).1 = 11) (a1 : Nat) (ha1 : (aw_sh a1).1 = 13) (a2 : Int32) (μ : aw_M), AM l yX3_readCond cX3_readCond 5 (some .boolean) (22 + 3 * n) (1100 + 200 * n) aw_gz [.ref t, .ref a0, .ref a1, .int a2] μ (r_X3_readCond t a0 a1 a2 μ)) (r_X3_readOne : Nat → Nat → Nat → Int32 → aw_M → Option (Bool × aw_M)) (hr_X3_readOne : ∀ (t : Nat) (ht : (aw_sh t).1 = 8) (a0 : Nat) (ha0 : (aw_sh a0).1 = 11) (a1 : Nat) (ha1 : (aw_sh a1).1 = 13) (a2 : Int32) (μ : aw_M), AM l yX3_readOne cX3_readOne 6 (some .boolean) (20 + 3 * n) (1000 + 200 * n) aw_gz [.ref t, .ref a0, .ref a1, .int a2] μ (r_X3_readOne t a0 a1 a2 μ)) (t : Nat) (ht : (aw_sh t).1 = 8) (a0 : Nat) (ha0 : (aw_sh a0).1 = 11) (a1 : Nat) (ha1 : (aw_sh a1).1 = 13) (x3 : Int32) (x4 : Bool) (μ : aw_M) : AW l (k_X3_readOne n) aw_gz 36 [some (.ref t), some (.ref a0), some (.ref a1), some (.int x3), some (.int (aw_b x4)), none] [] μ (f_X3_readOne_36 F r_X3_readCond r_X3_readOne t a0 a1 x3 x4 μ) := by
  unfold f_X3_readOne_36
  refine aw_aload_n (n := 37) dX3_readOne_36 rfl rfl ?_
  refine aw_getI (n := 40) (RX3, TX3, 6) 3 0 dX3_readOne_37 rfl ht (by decide) fd_RX3_25 ?_
  refine aw_bipush (n := 42) 20 dX3_readOne_40 rfl (by decide) ?_
  refine aw_icmp_ge (n := 45) 51 dX3_readOne_42 (by decide) rfl ?_ ?_
  · exact aw_weak (c_X3_readOne_51 l F n r_X3_readCond hr_X3_readCond r_X3_readOne hr_X3_readOne t ht a0 ha0 a1 ha1 μ) (aw_sn (aw_ss (aw_sn (aw_sn (aw_sn (aw_sn aw_s0))))))
  · refine aw_iload_n (n := 46) dX3_readOne_45 rfl rfl ?_
    refine aw_bipush (n := 48) 8 dX3_readOne_46 rfl (by decide) ?_
    refine aw_icmp_le (n := 51) 57 dX3_readOne_48 (by decide) rfl ?_ ?_
    · refine aw_aload_n (n := 58) dX3_readOne_57 rfl rfl ?_
      refine aw_dup (n := 59) dX3_readOne_58 rfl (fun _ => rfl) ?_
      refine aw_getI (n := 62) (RX3, TX3, 6) 3 0 dX3_readOne_59 rfl ht (by decide) fd_RX3_25 ?_
      refine aw_iconst (n := 63) 1 dX3_readOne_62 rfl (by decide) ?_
      refine aw_iadd (n := 64) dX3_readOne_63 rfl ?_
      refine aw_putI (n := 67) (RX3, TX3, 6) 3 0 dX3_readOne_64 rfl ht (by decide) fp_RX3_25 (fun μ16 => ?_)
      refine aw_aload_n (n := 68) dX3_readOne_67 rfl rfl ?_
      refine aw_getI (n := 71) (RX6, TX6, 13) 6 9 dX3_readOne_68 rfl ha0 (by decide) fd_RX3_75 ?_
      refine aw_nmI (fun v17 => ?_)
      refine aw_istore (n := 73) [some (.ref t), some (.ref a0), some (.ref a1), some (.int x3), some (.int (aw_b x4)), some (.int v17)] dX3_readOne_71 rfl rfl (Nat.le_of_ble_eq_true rfl) (Nat.le_of_ble_eq_true rfl) rfl ?_
      refine aw_aload_n (n := 74) dX3_readOne_73 rfl rfl ?_
      refine aw_callVv (n := 77) (as := []) (st := []) (RX6, TX6, 13) 6 dX3_readOne_74 rfl rfl (m_X6_step l F a0 ha0 μ16) ha0 (by decide) rfl rfl cw_RX3_62 ⟨(show (2) + 1 ≤ 20 + 3 * (n + 1) by omega), (show 8 + (1 + 11) + (143) ≤ 1000 + 200 * (n + 1) by omega)⟩ (fun _ => Nat.le_of_ble_eq_true rfl) (fun r18 => ?_)
      refine aw_iload (n := 79) dX3_readOne_77 rfl rfl ?_
      refine aw_ifb_eq (n := 82) 109 dX3_readOne_79 (by decide) rfl ?_ ?_
      · refine aw_iload (n := 111) dX3_readOne_109 rfl rfl ?_
        refine aw_bipush (n := 113) 11 dX3_readOne_111 rfl (by decide) ?_
        refine aw_icmp_ne (n := 116) 145 dX3_readOne_113 (by decide) rfl ?_ ?_
        · refine aw_iload (n := 147) dX3_readOne_145 rfl rfl ?_
          refine aw_bipush (n := 149) 12 dX3_readOne_147 rfl (by decide) ?_
          refine aw_icmp_ne (n := 152) 161 dX3_readOne_149 (by decide) rfl ?_ ?_
          · refine aw_iload (n := 163) dX3_readOne_161 rfl rfl ?_
            refine aw_bipush (n := 165) 13 dX3_readOne_163 rfl (by decide) ?_
            refine aw_icmp_ne (n := 168) 177 dX3_readOne_165 (by decide) rfl ?_ ?_
            · refine aw_aload_n (n := 178) dX3_readOne_177 rfl rfl ?_
              refine aw_aload_n (n := 179) dX3_readOne_178 rfl rfl ?_
              refine aw_iload (n := 181) dX3_readOne_179 rfl rfl ?_
              refine aw_callVz (n := 184) (as := [.ref a0, .int v17]) (st := []) (RX3, TX3, 6) 3 dX3_readOne_181 rfl rfl (m_X3_readMeasure l F t ht a0 ha0 v17 r18) ht (by decide) rfl rfl cw_RX3_85 ⟨(show (3) + 1 ≤ 20 + 3 * (n + 1) by omega), (show 8 + (4 + 11) + (163) ≤ 1000 + 200 * (n + 1) by omega)⟩ (fun _ => Nat.le_of_ble_eq_true rfl) (fun r19 => ?_)
              exact aw_zreturn (b := r19.1) dX3_readOne_184 rfl rfl
            · refine aw_aload_n (n := 169) dX3_readOne_168 rfl rfl ?_
              refine aw_aload_n (n := 170) dX3_readOne_169 rfl rfl ?_
              refine aw_aload_n (n := 171) dX3_readOne_170 rfl rfl ?_
              refine aw_callVz (n := 174) (as := [.ref a0, .ref a1]) (st := []) (RX3, TX3, 6) 3 dX3_readOne_171 rfl rfl (m_X3_readJoins l F t ht a0 ha0 a1 ha1 r18) ht (by decide) rfl rfl cw_RX3_81 ⟨(show (3) + 1 ≤ 20 + 3 * (n + 1) by omega), (show 8 + (4 + 11) + (163) ≤ 1000 + 200 * (n + 1) by omega)⟩ (fun _ => Nat.le_of_ble_eq_true rfl) (fun r20 => ?_)
              refine aw_goto 184 dX3_readOne_174 (by decide) ?_
              exact aw_zreturn (b := r20.1) dX3_readOne_184 rfl rfl
          · refine aw_aload_n (n := 153) dX3_readOne_152 rfl rfl ?_
            refine aw_bipush (n := 155) 12 dX3_readOne_153 rfl (by decide) ?_
            refine aw_iconst (n := 156) 0 dX3_readOne_155 rfl (by decide) ?_
            refine aw_iconst (n := 157) 0 dX3_readOne_156 rfl (by decide) ?_
            refine aw_callVz (n := 160) (as := [.int 12, .int 0, .int 0]) (st := []) (RX3, TX3, 6) 3 dX3_readOne_157 rfl rfl (m_X3_addStep l F t ht 12 0 0 r18) ht (by decide) rfl rfl cw_RX3_65 ⟨(show (1) + 1 ≤ 20 + 3 * (n + 1) by omega), (show 8 + (4 + 11) + (120) ≤ 1000 + 200 * (n + 1) by omega)⟩ (fun _ => Nat.le_of_ble_eq_true rfl) (fun r21 => ?_)
            exact aw_zreturn (b := r21.1) dX3_readOne_160 rfl rfl
        · refine aw_aload_n (n := 117) dX3_readOne_116 rfl rfl ?_
          refine aw_aload_n (n := 118) dX3_readOne_117 rfl rfl ?_
          refine aw_aload_n (n := 119) dX3_readOne_118 rfl rfl ?_
          refine aw_iload_n (n := 120) dX3_readOne_119 rfl rfl ?_
          refine aw_iconst (n := 121) 1 dX3_readOne_120 rfl (by decide) ?_
          refine aw_iadd (n := 122) dX3_readOne_121 rfl ?_
          refine aw_callVz (n := 125) (as := [.ref a0, .ref a1, .int (x3 + 1)]) (st := []) (RX3, TX3, 6) 3 dX3_readOne_122 rfl rfl (hr_X3_readOne t ht a0 ha0 a1 ha1 (x3 + 1) r18) ht (by decide) rfl rfl cw_RX3_69 ⟨(show (20 + 3 * n) + 1 ≤ 20 + 3 * (n + 1) by omega), (show 8 + (6 + 11) + (1000 + 200 * n) ≤ 1000 + 200 * (n + 1) by omega)⟩ (fun _ => Nat.le_of_ble_eq_true rfl) (fun r22 => ?_)
          refine aw_ifb_eq (n := 128) 143 dX3_readOne_125 (by decide) rfl ?_ ?_
          · refine aw_iconst (n := 144) 0 dX3_readOne_143 rfl (by decide) ?_
            exact aw_zreturn (b := false) dX3_readOne_144 rfl rfl
          · refine aw_aload_n (n := 129) dX3_readOne_128 rfl rfl ?_
            refine aw_bipush (n := 131) 11 dX3_readOne_129 rfl (by decide) ?_
            refine aw_iconst (n := 132) 0 dX3_readOne_131 rfl (by decide) ?_
            refine aw_iconst (n := 133) 0 dX3_readOne_132 rfl (by decide) ?_
            refine aw_callVz (n := 136) (as := [.int 11, .int 0, .int 0]) (st := []) (RX3, TX3, 6) 3 dX3_readOne_133 rfl rfl (m_X3_addStep l F t ht 11 0 0 r22.2) ht (by decide) rfl rfl cw_RX3_65 ⟨(show (1) + 1 ≤ 20 + 3 * (n + 1) by omega), (show 8 + (4 + 11) + (120) ≤ 1000 + 200 * (n + 1) by omega)⟩ (fun _ => Nat.le_of_ble_eq_true rfl) (fun r23 => ?_)
            refine aw_ifb_eq (n := 139) 143 dX3_readOne_136 (by decide) rfl ?_ ?_
            · refine aw_iconst (n := 144) 0 dX3_readOne_143 rfl (by decide) ?_
              exact aw_zreturn (b := false) dX3_readOne_144 rfl rfl
            · refine aw_iconst (n := 140) 1 dX3_readOne_139 rfl (by decide) ?_
              refine aw_goto 144 dX3_readOne_140 (by decide) ?_
              exact aw_zreturn (b := true) dX3_readOne_144 rfl rfl
      · refine aw_aload_n (n := 83) dX3_readOne_82 rfl rfl ?_
        refine aw_aload_n (n := 84) dX3_readOne_83 rfl rfl ?_
        refine aw_aload_n (n := 85) dX3_readOne_84 rfl rfl ?_
        refine aw_iload_n (n := 86) dX3_readOne_85 rfl rfl ?_
        refine aw_iconst (n := 87) 1 dX3_readOne_86 rfl (by decide) ?_
        refine aw_iadd (n := 88) dX3_readOne_87 rfl ?_
        refine aw_callVz (n := 91) (as := [.ref a0, .ref a1, .int (x3 + 1)]) (st := []) (RX3, TX3, 6) 3 dX3_readOne_88 rfl rfl (hr_X3_readCond t ht a0 ha0 a1 ha1 (x3 + 1) r18) ht (by decide) rfl rfl cw_RX3_45 ⟨(show (22 + 3 * n) + 1 ≤ 20 + 3 * (n + 1) by omega), (show 8 + (5 + 11) + (1100 + 200 * n) ≤ 1000 + 200 * (n + 1) by omega)⟩ (fun _ => Nat.le_of_ble_eq_true rfl) (fun r24 => ?_)
        refine aw_ifb_eq (n := 94) 107 dX3_readOne_91 (by decide) rfl ?_ ?_
        · refine aw_iconst (n := 108) 0 dX3_readOne_107 rfl (by decide) ?_
          exact aw_zreturn (b := false) dX3_readOne_108 rfl rfl
        · refine aw_aload_n (n := 95) dX3_readOne_94 rfl rfl ?_
          refine aw_bipush (n := 97) 41 dX3_readOne_95 rfl (by decide) ?_
          refine aw_callVz (n := 100) (as := [.int 41]) (st := []) (RX6, TX6, 13) 6 dX3_readOne_97 rfl rfl (m_X6_passSign l F a0 ha0 41 r24.2) ha0 (by decide) rfl rfl cw_RX3_78 ⟨(show (3) + 1 ≤ 20 + 3 * (n + 1) by omega), (show 8 + (2 + 11) + (163) ≤ 1000 + 200 * (n + 1) by omega)⟩ (fun _ => Nat.le_of_ble_eq_true rfl) (fun r25 => ?_)
          refine aw_ifb_eq (n := 103) 107 dX3_readOne_100 (by decide) rfl ?_ ?_
          · refine aw_iconst (n := 108) 0 dX3_readOne_107 rfl (by decide) ?_
            exact aw_zreturn (b := false) dX3_readOne_108 rfl rfl
          · refine aw_iconst (n := 104) 1 dX3_readOne_103 rfl (by decide) ?_
            refine aw_goto 108 dX3_readOne_104 (by decide) ?_
            exact aw_zreturn (b := true) dX3_readOne_108 rfl rfl
    · exact aw_weak (c_X3_readOne_51 l F n r_X3_readCond hr_X3_readCond r_X3_readOne hr_X3_readOne t ht a0 ha0 a1 ha1 μ) (aw_sn (aw_ss (aw_sn (aw_sn (aw_sn (aw_sn aw_s0))))))
def f_X3_readOne_30 (F : Nat) (r_X3_readCond : Nat → Nat → Nat → Int32 → aw_M → Option (Bool × aw_M)) (r_X3_readOne : Nat → Nat → Nat → Int32 → aw_M → Option (Bool × aw_M)) (t a0 a1 : Nat) (μ : aw_M) : Option (Bool × aw_M) :=
  (f_X6_fail F a0 1 μ).bind fun r26 =>
  some (r26.1, r26.2)
theorem c_X3_readOne_30 (l : Launch) (F : Nat) (n : Nat) (r_X3_readCond : Nat → Nat → Nat → Int32 → aw_M → Option (Bool × aw_M)) (hr_X3_readCond : ∀ (t : Nat) (ht : (aw_sh t).1 = 8) (a0 : Nat) (ha0 : (aw_sh a0).1 = 11) (a1 : Nat) (ha1 : (aw_sh a1).1 = 13) (a2 : Int32) (μ : aw_M), AM l yX3_readCond cX3_readCond 5 (some .boolean) (22 + 3 * n) (1100 + 200 * n) aw_gz [.ref t, .ref a0, .ref a1, .int a2] μ (r_X3_readCond t a0 a1 a2 μ)) (r_X3_readOne : Nat → Nat → Nat → Int32 → aw_M → Option (Bool × aw_M)) (hr_X3_readOne : ∀ (t : Nat) (ht : (aw_sh t).1 = 8) (a0 : Nat) (ha0 : (aw_sh a0).1 = 11) (a1 : Nat) (ha1 : (aw_sh a1).1 = 13) (a2 : Int32) (μ : aw_M), AM l yX3_readOne cX3_readOne 6 (some .boolean) (20 + 3 * n) (1000 + 200 * n) aw_gz [.ref t, .ref a0, .ref a1, .int a2] μ (r_X3_readOne t a0 a1 a2 μ)) (t : Nat) (ht : (aw_sh t).1 = 8) (a0 : Nat) (ha0 : (aw_sh a0).1 = 11) (a1 : Nat) (ha1 : (aw_sh a1).1 = 13) (μ : aw_M) : AW l (k_X3_readOne n) aw_gz 30 [none, some (.ref a0), none, none, none, none] [] μ (f_X3_readOne_30 F r_X3_readCond r_X3_readOne t a0 a1 μ) := by
  unfold f_X3_readOne_30
  refine aw_aload_n (n := 31) dX3_readOne_30 rfl rfl ?_
  refine aw_iconst (n := 32) 1 dX3_readOne_31 rfl (by decide) ?_
  refine aw_callVz (n := 35) (as := [.int 1]) (st := []) (RX6, TX6, 13) 6 dX3_readOne_32 rfl rfl (m_X6_fail l F a0 ha0 1 μ) ha0 (by decide) rfl rfl cw_RX3_52 ⟨(show (1) + 1 ≤ 20 + 3 * (n + 1) by omega), (show 8 + (2 + 11) + (120) ≤ 1000 + 200 * (n + 1) by omega)⟩ (fun _ => Nat.le_of_ble_eq_true rfl) (fun r26 => ?_)
  exact aw_zreturn (b := r26.1) dX3_readOne_35 rfl rfl
def g_X3_readOne (F : Nat) (r_X3_readCond : Nat → Nat → Nat → Int32 → aw_M → Option (Bool × aw_M)) (r_X3_readOne : Nat → Nat → Nat → Int32 → aw_M → Option (Bool × aw_M)) (t a0 a1 : Nat) (a2 : Int32) (μ : aw_M) : Option (Bool × aw_M) :=
  (f_X6_atSign F a0 40 μ).bind fun r14 =>
  (if r14.1 = true then
  f_X3_readOne_36 F r_X3_readCond r_X3_readOne t a0 a1 a2 r14.1 r14.2
  else
  (if (r14.2.1 a0 6) = 1 then
  (if 11 ≤ (r14.2.1 a0 9) then
  f_X3_readOne_36 F r_X3_readCond r_X3_readOne t a0 a1 a2 r14.1 r14.2
  else
  f_X3_readOne_30 F r_X3_readCond r_X3_readOne t a0 a1 r14.2)
  else
  f_X3_readOne_30 F r_X3_readCond r_X3_readOne t a0 a1 r14.2))
theorem n_X3_readOne (l : Launch) (F : Nat) (n : Nat) (r_X3_readCond : Nat → Nat → Nat → Int32 → aw_M → Option (Bool × aw_M)) (hr_X3_readCond : ∀ (t : Nat) (ht : (aw_sh t).1 = 8) (a0 : Nat) (ha0 : (aw_sh a0).1 = 11) (a1 : Nat) (ha1 : (aw_sh a1).1 = 13) (a2 : Int32) (μ : aw_M), AM l yX3_readCond cX3_readCond 5 (some .boolean) (22 + 3 * n) (1100 + 200 * n) aw_gz [.ref t, .ref a0, .ref a1, .int a2] μ (r_X3_readCond t a0 a1 a2 μ)) (r_X3_readOne : Nat → Nat → Nat → Int32 → aw_M → Option (Bool × aw_M)) (hr_X3_readOne : ∀ (t : Nat) (ht : (aw_sh t).1 = 8) (a0 : Nat) (ha0 : (aw_sh a0).1 = 11) (a1 : Nat) (ha1 : (aw_sh a1).1 = 13) (a2 : Int32) (μ : aw_M), AM l yX3_readOne cX3_readOne 6 (some .boolean) (20 + 3 * n) (1000 + 200 * n) aw_gz [.ref t, .ref a0, .ref a1, .int a2] μ (r_X3_readOne t a0 a1 a2 μ)) (t : Nat) (ht : (aw_sh t).1 = 8) (a0 : Nat) (ha0 : (aw_sh a0).1 = 11) (a1 : Nat) (ha1 : (aw_sh a1).1 = 13) (a2 : Int32) (μ : aw_M) : AM l yX3_readOne cX3_readOne 6 (some .boolean) (20 + 3 * (n + 1)) (1000 + 200 * (n + 1)) aw_gz [.ref t, .ref a0, .ref a1, .int a2] μ (g_X3_readOne F r_X3_readCond r_X3_readOne t a0 a1 a2 μ) := by
  refine aw_met [some (.ref t), some (.ref a0), some (.ref a1), some (.int a2), none, none] (by decide) (fun _ => rfl) (fun _ => Nat.le_of_ble_eq_true rfl) ?_
  show AW l (k_X3_readOne n) aw_gz 0 [some (.ref t), some (.ref a0), some (.ref a1), some (.int a2), none, none] [] μ _
  unfold g_X3_readOne
  refine aw_aload_n (n := 1) dX3_readOne_0 rfl rfl ?_
  refine aw_bipush (n := 3) 40 dX3_readOne_1 rfl (by decide) ?_
  refine aw_callVz (n := 6) (as := [.int 40]) (st := []) (RX6, TX6, 13) 6 dX3_readOne_3 rfl rfl (m_X6_atSign l F a0 ha0 40 μ) ha0 (by decide) rfl rfl cw_RX3_72 ⟨(show (1) + 1 ≤ 20 + 3 * (n + 1) by omega), (show 8 + (2 + 11) + (120) ≤ 1000 + 200 * (n + 1) by omega)⟩ (fun _ => Nat.le_of_ble_eq_true rfl) (fun r14 => ?_)
  refine aw_istore (n := 8) [some (.ref t), some (.ref a0), some (.ref a1), some (.int a2), some (.int (aw_b r14.1)), none] dX3_readOne_6 rfl rfl (Nat.le_of_ble_eq_true rfl) (Nat.le_of_ble_eq_true rfl) rfl ?_
  refine aw_iload (n := 10) dX3_readOne_8 rfl rfl ?_
  refine aw_ifb_ne (n := 13) 36 dX3_readOne_10 (by decide) rfl ?_ ?_
  · exact aw_weak (c_X3_readOne_36 l F n r_X3_readCond hr_X3_readCond r_X3_readOne hr_X3_readOne t ht a0 ha0 a1 ha1 a2 r14.1 r14.2) (aw_ss (aw_ss (aw_ss (aw_ss (aw_ss (aw_sn aw_s0))))))
  · refine aw_aload_n (n := 14) dX3_readOne_13 rfl rfl ?_
    refine aw_getI (n := 17) (RX6, TX6, 13) 6 6 dX3_readOne_14 rfl ha0 (by decide) fd_RX3_49 ?_
    refine aw_iconst (n := 18) 1 dX3_readOne_17 rfl (by decide) ?_
    refine aw_icmp_ne (n := 21) 30 dX3_readOne_18 (by decide) rfl ?_ ?_
    · exact aw_weak (c_X3_readOne_30 l F n r_X3_readCond hr_X3_readCond r_X3_readOne hr_X3_readOne t ht a0 ha0 a1 ha1 r14.2) (aw_sn (aw_ss (aw_sn (aw_sn (aw_sn (aw_sn aw_s0))))))
    · refine aw_aload_n (n := 22) dX3_readOne_21 rfl rfl ?_
      refine aw_getI (n := 25) (RX6, TX6, 13) 6 9 dX3_readOne_22 rfl ha0 (by decide) fd_RX3_75 ?_
      refine aw_bipush (n := 27) 11 dX3_readOne_25 rfl (by decide) ?_
      refine aw_icmp_ge (n := 30) 36 dX3_readOne_27 (by decide) rfl ?_ ?_
      · exact aw_weak (c_X3_readOne_36 l F n r_X3_readCond hr_X3_readCond r_X3_readOne hr_X3_readOne t ht a0 ha0 a1 ha1 a2 r14.1 r14.2) (aw_ss (aw_ss (aw_ss (aw_ss (aw_ss (aw_sn aw_s0))))))
      · exact aw_weak (c_X3_readOne_30 l F n r_X3_readCond hr_X3_readCond r_X3_readOne hr_X3_readOne t ht a0 ha0 a1 ha1 r14.2) (aw_sn (aw_ss (aw_sn (aw_sn (aw_sn (aw_sn aw_s0))))))
def h_X3_readOne (F : Nat) : Nat → Nat → Nat → Nat → Int32 → aw_M → Option (Bool × aw_M)
  | 0 => fun _ _ _ _ _ => none
  | n + 1 => g_X3_readOne F (g_X3_readCond F (g_X3_readAll F (h_X3_readOne F n))) (h_X3_readOne F n)
theorem hm_X3_readOne (l : Launch) (F : Nat) : ∀ (n : Nat) (t : Nat) (ht : (aw_sh t).1 = 8) (a0 : Nat) (ha0 : (aw_sh a0).1 = 11) (a1 : Nat) (ha1 : (aw_sh a1).1 = 13) (a2 : Int32) (μ : aw_M), AM l yX3_readOne cX3_readOne 6 (some .boolean) (20 + 3 * n) (1000 + 200 * n) aw_gz [.ref t, .ref a0, .ref a1, .int a2] μ (h_X3_readOne F n t a0 a1 a2 μ)
  | 0, t, ht, a0, ha0, a1, ha1, a2, μ => fun D C ad sz r hr => by cases hr
  | n + 1, t, ht, a0, ha0, a1, ha1, a2, μ => n_X3_readOne l F n _ (fun t ht a0 ha0 a1 ha1 a2 μ => n_X3_readCond l F n _ (fun t ht a0 ha0 a1 ha1 a2 μ => n_X3_readAll l F n _ (hm_X3_readOne l F n) t ht a0 ha0 a1 ha1 a2 μ) t ht a0 ha0 a1 ha1 a2 μ) _ (hm_X3_readOne l F n) t ht a0 ha0 a1 ha1 a2 μ
def f_X3_readCond (F : Nat) : Nat → Nat → Nat → Int32 → aw_M → Option (Bool × aw_M) := g_X3_readCond F (g_X3_readAll F (h_X3_readOne F 12))
theorem m_X3_readCond (l : Launch) (F : Nat) (t : Nat) (ht : (aw_sh t).1 = 8) (a0 : Nat) (ha0 : (aw_sh a0).1 = 11) (a1 : Nat) (ha1 : (aw_sh a1).1 = 13) (a2 : Int32) (μ : aw_M) : AM l yX3_readCond cX3_readCond 5 (some .boolean) 58 3500 aw_gz [.ref t, .ref a0, .ref a1, .int a2] μ (f_X3_readCond F t a0 a1 a2 μ) :=
  n_X3_readCond l F 12 _ (fun t ht a0 ha0 a1 ha1 a2 μ => n_X3_readAll l F 12 _ (hm_X3_readOne l F 12) t ht a0 ha0 a1 ha1 a2 μ) t ht a0 ha0 a1 ha1 a2 μ
abbrev k_X3_readFrom : aw_K := (RX3, cX3_readFrom, 3, (some .boolean), 59, 3524)
def f_X3_readFrom_39 (F : Nat) (t a0 a1 : Nat) (μ : aw_M) : Option (Bool × aw_M) :=
  some (true, μ)
theorem c_X3_readFrom_39 (l : Launch) (F : Nat) (t : Nat) (ht : (aw_sh t).1 = 8) (a0 : Nat) (ha0 : (aw_sh a0).1 = 11) (a1 : Nat) (ha1 : (aw_sh a1).1 = 13) (μ : aw_M) : AW l k_X3_readFrom aw_gz 39 [none, none, none] [] μ (f_X3_readFrom_39 F t a0 a1 μ) := by
  unfold f_X3_readFrom_39
  refine aw_iconst (n := 40) 1 dX3_readFrom_39 rfl (by decide) ?_
  refine aw_goto 44 dX3_readFrom_40 (by decide) ?_
  exact aw_zreturn (b := true) dX3_readFrom_44 rfl rfl
def f_X3_readFrom (F : Nat) (t a0 a1 : Nat) (μ : aw_M) : Option (Bool × aw_M) :=
  (f_X3_forget F t μ).bind fun r5 =>
  (f_X6_open F a0 200 r5).bind fun r6 =>
  (f_X3_readCond F t a0 a1 1 r6).bind fun r7 =>
  (if r7.1 = true then
  (if (r7.2.1 a0 6) = 4 then
  f_X3_readFrom_39 F t a0 a1 r7.2
  else
  (f_X6_fail F a0 1 r7.2).bind fun r8 =>
  (if r8.1 = true then
  f_X3_readFrom_39 F t a0 a1 r8.2
  else
  some (false, r8.2)))
  else
  some (false, r7.2))
theorem m_X3_readFrom (l : Launch) (F : Nat) (t : Nat) (ht : (aw_sh t).1 = 8) (a0 : Nat) (ha0 : (aw_sh a0).1 = 11) (a1 : Nat) (ha1 : (aw_sh a1).1 = 13) (μ : aw_M) : AM l yX3_readFrom cX3_readFrom 3 (some .boolean) (59) (3524) aw_gz [.ref t, .ref a0, .ref a1] μ (f_X3_readFrom F t a0 a1 μ) := by
  refine aw_met [some (.ref t), some (.ref a0), some (.ref a1)] (by decide) (fun _ => rfl) (fun _ => Nat.le_of_ble_eq_true rfl) ?_
  show AW l k_X3_readFrom aw_gz 0 [some (.ref t), some (.ref a0), some (.ref a1)] [] μ _
  unfold f_X3_readFrom
  refine aw_aload_n (n := 1) dX3_readFrom_0 rfl rfl ?_
  refine aw_callVv (n := 4) (as := []) (st := []) (RX3, TX3, 6) 3 dX3_readFrom_1 rfl rfl (m_X3_forget l F t ht μ) ht (by decide) rfl rfl cw_RX3_36 ⟨Nat.le_of_ble_eq_true rfl, Nat.le_of_ble_eq_true rfl⟩ (fun _ => Nat.le_of_ble_eq_true rfl) (fun r5 => ?_)
  refine aw_aload_n (n := 5) dX3_readFrom_4 rfl rfl ?_
  refine aw_sipush (n := 8) 200 dX3_readFrom_5 rfl (by decide) ?_
  refine aw_callVv (n := 11) (as := [.int 200]) (st := []) (RX6, TX6, 13) 6 dX3_readFrom_8 rfl rfl (m_X6_open l F a0 ha0 200 r5) ha0 (by decide) rfl rfl cw_RX3_39 ⟨Nat.le_of_ble_eq_true rfl, Nat.le_of_ble_eq_true rfl⟩ (fun _ => Nat.le_of_ble_eq_true rfl) (fun r6 => ?_)
  refine aw_aload_n (n := 12) dX3_readFrom_11 rfl rfl ?_
  refine aw_aload_n (n := 13) dX3_readFrom_12 rfl rfl ?_
  refine aw_aload_n (n := 14) dX3_readFrom_13 rfl rfl ?_
  refine aw_iconst (n := 15) 1 dX3_readFrom_14 rfl (by decide) ?_
  refine aw_callVz (n := 18) (as := [.ref a0, .ref a1, .int 1]) (st := []) (RX3, TX3, 6) 3 dX3_readFrom_15 rfl rfl (m_X3_readCond l F t ht a0 ha0 a1 ha1 1 r6) ht (by decide) rfl rfl cw_RX3_45 ⟨Nat.le_of_ble_eq_true rfl, Nat.le_of_ble_eq_true rfl⟩ (fun _ => Nat.le_of_ble_eq_true rfl) (fun r7 => ?_)
  refine aw_ifb_ne (n := 21) 23 dX3_readFrom_18 (by decide) rfl ?_ ?_
  · refine aw_aload_n (n := 24) dX3_readFrom_23 rfl rfl ?_
    refine aw_getI (n := 27) (RX6, TX6, 13) 6 6 dX3_readFrom_24 rfl ha0 (by decide) fd_RX3_49 ?_
    refine aw_iconst (n := 28) 4 dX3_readFrom_27 rfl (by decide) ?_
    refine aw_icmp_eq (n := 31) 39 dX3_readFrom_28 (by decide) rfl ?_ ?_
    · exact aw_weak (c_X3_readFrom_39 l F t ht a0 ha0 a1 ha1 r7.2) (aw_sn (aw_sn (aw_sn aw_s0)))
    · refine aw_aload_n (n := 32) dX3_readFrom_31 rfl rfl ?_
      refine aw_iconst (n := 33) 1 dX3_readFrom_32 rfl (by decide) ?_
      refine aw_callVz (n := 36) (as := [.int 1]) (st := []) (RX6, TX6, 13) 6 dX3_readFrom_33 rfl rfl (m_X6_fail l F a0 ha0 1 r7.2) ha0 (by decide) rfl rfl cw_RX3_52 ⟨Nat.le_of_ble_eq_true rfl, Nat.le_of_ble_eq_true rfl⟩ (fun _ => Nat.le_of_ble_eq_true rfl) (fun r8 => ?_)
      refine aw_ifb_eq (n := 39) 43 dX3_readFrom_36 (by decide) rfl ?_ ?_
      · refine aw_iconst (n := 44) 0 dX3_readFrom_43 rfl (by decide) ?_
        exact aw_zreturn (b := false) dX3_readFrom_44 rfl rfl
      · exact aw_weak (c_X3_readFrom_39 l F t ht a0 ha0 a1 ha1 r8.2) (aw_sn (aw_sn (aw_sn aw_s0)))
  · refine aw_iconst (n := 22) 0 dX3_readFrom_21 rfl (by decide) ?_
    exact aw_zreturn (b := false) dX3_readFrom_22 rfl rfl
abbrev k_X9_placeNext (n : Nat) : aw_K := (RX9, cX9_placeNext, 6, none, 20 + (n + 1), 1000 + 100 * (n + 1))
def f_X9_placeNext_117 (F : Nat) (r_X9_placeNext : Nat → Int32 → Int32 → Int32 → aw_M → Option (aw_M)) (t : Nat) (k64 : Int32 × Int32 × Int32 × Int32 × aw_M → Option (aw_M)) (x1 : Int32) (x2 : Int32) (x4 : Int32) (x5 : Int32) (μ : aw_M) : Option (aw_M) :=
  k64 (x1, x2, x4, (x5 + 1), μ)
theorem c_X9_placeNext_117 (l : Launch) (F : Nat) (n : Nat) (r_X9_placeNext : Nat → Int32 → Int32 → Int32 → aw_M → Option (aw_M)) (hr_X9_placeNext : ∀ (t : Nat) (ht : (aw_sh t).1 = 14) (a0 : Int32) (a1 : Int32) (a2 : Int32) (μ : aw_M), AM l yX9_placeNext cX9_placeNext 6 none (20 + n) (1000 + 100 * n) aw_gv [.ref t, .int a0, .int a1, .int a2] μ (r_X9_placeNext t a0 a1 a2 μ)) (t : Nat) (ht : (aw_sh t).1 = 14) (k64 : Int32 × Int32 × Int32 × Int32 × aw_M → Option (aw_M)) (hk64 : ∀ s : Int32 × Int32 × Int32 × Int32 × aw_M, AW l (k_X9_placeNext n) aw_gv 64 [some (.ref t), some (.int s.1), some (.int s.2.1), none, some (.int s.2.2.1), some (.int s.2.2.2.1)] [] s.2.2.2.2 (k64 s)) (x1 : Int32) (x2 : Int32) (x4 : Int32) (x5 : Int32) (μ : aw_M) : AW l (k_X9_placeNext n) aw_gv 117 [some (.ref t), some (.int x1), some (.int x2), none, some (.int x4), some (.int x5)] [] μ (f_X9_placeNext_117 F r_X9_placeNext t k64 x1 x2 x4 x5 μ) := by
  unfold f_X9_placeNext_117
  refine aw_iinc (n := 120) (x5 + 1) [some (.ref t), some (.int x1), some (.int x2), none, some (.int x4), some (.int (x5 + 1))] dX9_placeNext_117 rfl rfl (by rfl) rfl (Nat.le_of_ble_eq_true rfl) rfl ?_
  refine aw_goto 64 dX9_placeNext_120 (by decide) ?_
  exact aw_weak (hk64 (x1, x2, x4, (x5 + 1), μ)) (aw_ss (aw_ss (aw_ss (aw_sn (aw_ss (aw_ss aw_s0))))))
def f_X9_placeNext_64 (F : Nat) (r_X9_placeNext : Nat → Int32 → Int32 → Int32 → aw_M → Option (aw_M)) (t : Nat) (k64 : Int32 × Int32 × Int32 × Int32 × aw_M → Option (aw_M)) (x1 : Int32) (x2 : Int32) (x4 : Int32) (x5 : Int32) (μ : aw_M) : Option (aw_M) :=
  (if (μ.1 t 2) ≤ x5 then
  some μ
  else
  (if ((x2 >>> (x5 &&& 31)) &&& 1) = 0 then
  aw_g (aw_in x1 8) (aw_let (aw_wI μ (aw_rf t 5) x1.toNatClampNeg x5) fun μ19 =>
  aw_g (aw_in x5 8) ((f_X9_serve F t x1 (μ19.1 (aw_rf t 6) x5.toNatClampNeg) μ19).bind fun r20 =>
  (r_X9_placeNext t (x1 + 1) (x2 ||| (1 <<< (x5 &&& 31))) x4 r20).bind fun r21 =>
  f_X9_placeNext_117 F r_X9_placeNext t k64 x1 x2 x4 x5 r21))
  else
  f_X9_placeNext_117 F r_X9_placeNext t k64 x1 x2 x4 x5 μ))
theorem c_X9_placeNext_64 (l : Launch) (F : Nat) (n : Nat) (r_X9_placeNext : Nat → Int32 → Int32 → Int32 → aw_M → Option (aw_M)) (hr_X9_placeNext : ∀ (t : Nat) (ht : (aw_sh t).1 = 14) (a0 : Int32) (a1 : Int32) (a2 : Int32) (μ : aw_M), AM l yX9_placeNext cX9_placeNext 6 none (20 + n) (1000 + 100 * n) aw_gv [.ref t, .int a0, .int a1, .int a2] μ (r_X9_placeNext t a0 a1 a2 μ)) (t : Nat) (ht : (aw_sh t).1 = 14) : ∀ (N : Nat) (s : Int32 × Int32 × Int32 × Int32 × aw_M), AW l (k_X9_placeNext n) aw_gv 64 [some (.ref t), some (.int s.1), some (.int s.2.1), none, some (.int s.2.2.1), some (.int s.2.2.2.1)] [] s.2.2.2.2 (aw_loop (fun k s => f_X9_placeNext_64 F r_X9_placeNext t k s.1 s.2.1 s.2.2.1 s.2.2.2.1 s.2.2.2.2) N s) := by
  refine aw_loop_ok (f := fun k s => f_X9_placeNext_64 F r_X9_placeNext t k s.1 s.2.1 s.2.2.1 s.2.2.2.1 s.2.2.2.2) (Ls := fun s => [some (.ref t), some (.int s.1), some (.int s.2.1), none, some (.int s.2.2.1), some (.int s.2.2.2.1)]) (ms := fun s => s.2.2.2.2) ?_
  intro k64 hk64 s
  obtain ⟨x1, x2, x4, x5, μ⟩ := s
  show AW l (k_X9_placeNext n) aw_gv 64 [some (.ref t), some (.int x1), some (.int x2), none, some (.int x4), some (.int x5)] [] μ (f_X9_placeNext_64 F r_X9_placeNext t k64 x1 x2 x4 x5 μ)
  unfold f_X9_placeNext_64
  refine aw_iload (n := 66) dX9_placeNext_64 rfl rfl ?_
  refine aw_aload_n (n := 67) dX9_placeNext_66 rfl rfl ?_
  refine aw_getI (n := 70) (RX9, TX9, 13) 9 2 dX9_placeNext_67 rfl ht (by decide) fd_RX9_40 ?_
  refine aw_icmp_ge (n := 73) 123 dX9_placeNext_70 (by decide) rfl ?_ ?_
  · exact aw_vreturn dX9_placeNext_123 rfl rfl
  · refine aw_iload_n (n := 74) dX9_placeNext_73 rfl rfl ?_
    refine aw_iload (n := 76) dX9_placeNext_74 rfl rfl ?_
    refine aw_ishr (n := 77) dX9_placeNext_76 rfl ?_
    refine aw_iconst (n := 78) 1 dX9_placeNext_77 rfl (by decide) ?_
    refine aw_iand (n := 79) dX9_placeNext_78 rfl ?_
    refine aw_if_ne (n := 82) 117 dX9_placeNext_79 (by decide) rfl ?_ ?_
    · exact aw_weak (c_X9_placeNext_117 l F n r_X9_placeNext hr_X9_placeNext t ht k64 hk64 x1 x2 x4 x5 μ) (aw_ss (aw_ss (aw_ss (aw_sn (aw_ss (aw_ss aw_s0))))))
    · refine aw_aload_n (n := 83) dX9_placeNext_82 rfl rfl ?_
      refine aw_getR (n := 86) (RX9, TX9, 13) 9 5 dX9_placeNext_83 rfl ht (by decide) fd_RX9_15 ?_
      refine aw_iload_n (n := 87) dX9_placeNext_86 rfl rfl ?_
      refine aw_iload (n := 89) dX9_placeNext_87 rfl rfl ?_
      refine aw_iastore (n := 90) 8 dX9_placeNext_89 rfl (sf_9_5 ht) (fun μ19 => ?_)
      refine aw_aload_n (n := 91) dX9_placeNext_90 rfl rfl ?_
      refine aw_iload_n (n := 92) dX9_placeNext_91 rfl rfl ?_
      refine aw_aload_n (n := 93) dX9_placeNext_92 rfl rfl ?_
      refine aw_getR (n := 96) (RX9, TX9, 13) 9 6 dX9_placeNext_93 rfl ht (by decide) fd_RX9_18 ?_
      refine aw_iload (n := 98) dX9_placeNext_96 rfl rfl ?_
      refine aw_iaload (n := 99) 8 dX9_placeNext_98 rfl (sf_9_6 ht) ?_
      refine aw_callVv (n := 102) (as := [.int x1, .int (μ19.1 (aw_rf t 6) x5.toNatClampNeg)]) (st := []) (RX9, TX9, 13) 9 dX9_placeNext_99 rfl rfl (m_X9_serve l F t ht x1 (μ19.1 (aw_rf t 6) x5.toNatClampNeg) μ19) ht (by decide) rfl rfl cw_RX9_82 ⟨(show (1) + 1 ≤ 20 + (n + 1) by omega), (show 8 + (5 + 11) + (120) ≤ 1000 + 100 * (n + 1) by omega)⟩ (fun _ => Nat.le_of_ble_eq_true rfl) (fun r20 => ?_)
      refine aw_aload_n (n := 103) dX9_placeNext_102 rfl rfl ?_
      refine aw_iload_n (n := 104) dX9_placeNext_103 rfl rfl ?_
      refine aw_iconst (n := 105) 1 dX9_placeNext_104 rfl (by decide) ?_
      refine aw_iadd (n := 106) dX9_placeNext_105 rfl ?_
      refine aw_iload_n (n := 107) dX9_placeNext_106 rfl rfl ?_
      refine aw_iconst (n := 108) 1 dX9_placeNext_107 rfl (by decide) ?_
      refine aw_iload (n := 110) dX9_placeNext_108 rfl rfl ?_
      refine aw_ishl (n := 111) dX9_placeNext_110 rfl ?_
      refine aw_ior (n := 112) dX9_placeNext_111 rfl ?_
      refine aw_iload (n := 114) dX9_placeNext_112 rfl rfl ?_
      refine aw_callVv (n := 117) (as := [.int (x1 + 1), .int (x2 ||| (1 <<< (x5 &&& 31))), .int x4]) (st := []) (RX9, TX9, 13) 9 dX9_placeNext_114 rfl rfl (hr_X9_placeNext t ht (x1 + 1) (x2 ||| (1 <<< (x5 &&& 31))) x4 r20) ht (by decide) rfl rfl cw_RX9_61 ⟨(show (20 + n) + 1 ≤ 20 + (n + 1) by omega), (show 8 + (6 + 11) + (1000 + 100 * n) ≤ 1000 + 100 * (n + 1) by omega)⟩ (fun _ => Nat.le_of_ble_eq_true rfl) (fun r21 => ?_)
      exact aw_weak (c_X9_placeNext_117 l F n r_X9_placeNext hr_X9_placeNext t ht k64 hk64 x1 x2 x4 x5 r21) (aw_ss (aw_ss (aw_ss (aw_sn (aw_ss (aw_ss aw_s0))))))
def g_X9_placeNext (F : Nat) (r_X9_placeNext : Nat → Int32 → Int32 → Int32 → aw_M → Option (aw_M)) (t : Nat) (a0 : Int32) (a1 : Int32) (a2 : Int32) (μ : aw_M) : Option (aw_M) :=
  (f_X9_waitAt F t a0 μ).bind fun r17 =>
  aw_let ((if a2 < r17.1 then r17.1 else a2)) fun v18 =>
  (if (r17.2.1 t 4) ≤ v18 then
  some r17.2
  else
  (if a0 ≤ 8 then
  (if a0 < (r17.2.1 t 2) then
  aw_loop (fun k s => f_X9_placeNext_64 F r_X9_placeNext t k s.1 s.2.1 s.2.2.1 s.2.2.2.1 s.2.2.2.2) F (a0, a1, v18, 0, r17.2)
  else
  aw_let (aw_wI r17.2 t 4 v18) fun μ22 =>
  aw_let (aw_wI μ22 t 0 (μ22.1 t 2)) fun μ23 =>
  (f_X10_copyRow F (aw_rf t 5) (aw_rf t 1) μ23).bind fun r24 =>
  some r24)
  else
  some r17.2))
theorem n_X9_placeNext (l : Launch) (F : Nat) (n : Nat) (r_X9_placeNext : Nat → Int32 → Int32 → Int32 → aw_M → Option (aw_M)) (hr_X9_placeNext : ∀ (t : Nat) (ht : (aw_sh t).1 = 14) (a0 : Int32) (a1 : Int32) (a2 : Int32) (μ : aw_M), AM l yX9_placeNext cX9_placeNext 6 none (20 + n) (1000 + 100 * n) aw_gv [.ref t, .int a0, .int a1, .int a2] μ (r_X9_placeNext t a0 a1 a2 μ)) (t : Nat) (ht : (aw_sh t).1 = 14) (a0 : Int32) (a1 : Int32) (a2 : Int32) (μ : aw_M) : AM l yX9_placeNext cX9_placeNext 6 none (20 + (n + 1)) (1000 + 100 * (n + 1)) aw_gv [.ref t, .int a0, .int a1, .int a2] μ (g_X9_placeNext F r_X9_placeNext t a0 a1 a2 μ) := by
  refine aw_met [some (.ref t), some (.int a0), some (.int a1), some (.int a2), none, none] (by decide) (fun _ => rfl) (fun _ => Nat.le_of_ble_eq_true rfl) ?_
  show AW l (k_X9_placeNext n) aw_gv 0 [some (.ref t), some (.int a0), some (.int a1), some (.int a2), none, none] [] μ _
  unfold g_X9_placeNext
  refine aw_iload_n (n := 1) dX9_placeNext_0 rfl rfl ?_
  refine aw_aload_n (n := 2) dX9_placeNext_1 rfl rfl ?_
  refine aw_iload_n (n := 3) dX9_placeNext_2 rfl rfl ?_
  refine aw_callVi (n := 6) (as := [.int a0]) (st := [.int a2]) (RX9, TX9, 13) 9 dX9_placeNext_3 rfl rfl (m_X9_waitAt l F t ht a0 μ) ht (by decide) rfl rfl cw_RX9_65 ⟨(show (1) + 1 ≤ 20 + (n + 1) by omega), (show 8 + (4 + 11) + (120) ≤ 1000 + 100 * (n + 1) by omega)⟩ (fun _ => Nat.le_of_ble_eq_true rfl) (fun r17 => ?_)
  refine aw_mmax (n := 9) dX9_placeNext_6 rfl tb_1210 (Nat.le_of_ble_eq_true rfl) (fun _ => Nat.le_of_ble_eq_true rfl) ?_
  refine aw_nmI (fun v18 => ?_)
  refine aw_istore (n := 11) [some (.ref t), some (.int a0), some (.int a1), some (.int a2), some (.int v18), none] dX9_placeNext_9 rfl rfl (Nat.le_of_ble_eq_true rfl) (Nat.le_of_ble_eq_true rfl) rfl ?_
  refine aw_iload (n := 13) dX9_placeNext_11 rfl rfl ?_
  refine aw_aload_n (n := 14) dX9_placeNext_13 rfl rfl ?_
  refine aw_getI (n := 17) (RX9, TX9, 13) 9 4 dX9_placeNext_14 rfl ht (by decide) fd_RX9_44 ?_
  refine aw_icmp_ge (n := 20) 26 dX9_placeNext_17 (by decide) rfl ?_ ?_
  · exact aw_vreturn dX9_placeNext_26 rfl rfl
  · refine aw_iload_n (n := 21) dX9_placeNext_20 rfl rfl ?_
    refine aw_bipush (n := 23) 8 dX9_placeNext_21 rfl (by decide) ?_
    refine aw_icmp_le (n := 26) 27 dX9_placeNext_23 (by decide) rfl ?_ ?_
    · refine aw_iload_n (n := 28) dX9_placeNext_27 rfl rfl ?_
      refine aw_aload_n (n := 29) dX9_placeNext_28 rfl rfl ?_
      refine aw_getI (n := 32) (RX9, TX9, 13) 9 2 dX9_placeNext_29 rfl ht (by decide) fd_RX9_40 ?_
      refine aw_icmp_lt (n := 35) 61 dX9_placeNext_32 (by decide) rfl ?_ ?_
      · refine aw_iconst (n := 62) 0 dX9_placeNext_61 rfl (by decide) ?_
        refine aw_istore (n := 64) [some (.ref t), some (.int a0), some (.int a1), some (.int a2), some (.int v18), some (.int 0)] dX9_placeNext_62 rfl rfl (Nat.le_of_ble_eq_true rfl) (Nat.le_of_ble_eq_true rfl) rfl ?_
        exact aw_weak (c_X9_placeNext_64 l F n r_X9_placeNext hr_X9_placeNext t ht F (a0, a1, v18, 0, r17.2)) (aw_ss (aw_ss (aw_ss (aw_sn (aw_ss (aw_ss aw_s0))))))
      · refine aw_aload_n (n := 36) dX9_placeNext_35 rfl rfl ?_
        refine aw_iload (n := 38) dX9_placeNext_36 rfl rfl ?_
        refine aw_putI (n := 41) (RX9, TX9, 13) 9 4 dX9_placeNext_38 rfl ht (by decide) fp_RX9_44 (fun μ22 => ?_)
        refine aw_aload_n (n := 42) dX9_placeNext_41 rfl rfl ?_
        refine aw_aload_n (n := 43) dX9_placeNext_42 rfl rfl ?_
        refine aw_getI (n := 46) (RX9, TX9, 13) 9 2 dX9_placeNext_43 rfl ht (by decide) fd_RX9_40 ?_
        refine aw_putI (n := 49) (RX9, TX9, 13) 9 0 dX9_placeNext_46 rfl ht (by decide) fp_RX9_75 (fun μ23 => ?_)
        refine aw_aload_n (n := 50) dX9_placeNext_49 rfl rfl ?_
        refine aw_getR (n := 53) (RX9, TX9, 13) 9 5 dX9_placeNext_50 rfl ht (by decide) fd_RX9_15 ?_
        refine aw_aload_n (n := 54) dX9_placeNext_53 rfl rfl ?_
        refine aw_getR (n := 57) (RX9, TX9, 13) 9 1 dX9_placeNext_54 rfl ht (by decide) fd_RX9_11 ?_
        refine aw_callNv (n := 60) (as := [.ref (aw_rf t 5), .ref (aw_rf t 1)]) (st := []) RX10 dX9_placeNext_57 rfl rfl (m_X10_copyRow l F (aw_rf t 5) (aw_arr (sf_9_5 ht)) (aw_rf t 1) (aw_arr (sf_9_1 ht)) μ23) cw_RX9_78 ⟨(show (1) + 1 ≤ 20 + (n + 1) by omega), (show 8 + (2 + 11) + (120) ≤ 1000 + 100 * (n + 1) by omega)⟩ (fun _ => Nat.le_of_ble_eq_true rfl) (fun r24 => ?_)
        exact aw_vreturn dX9_placeNext_60 rfl rfl
    · exact aw_vreturn dX9_placeNext_26 rfl rfl
def h_X9_placeNext (F : Nat) : Nat → Nat → Int32 → Int32 → Int32 → aw_M → Option aw_M
  | 0 => fun _ _ _ _ _ => none
  | n + 1 => g_X9_placeNext F (h_X9_placeNext F n)
theorem hm_X9_placeNext (l : Launch) (F : Nat) : ∀ (n : Nat) (t : Nat) (ht : (aw_sh t).1 = 14) (a0 a1 a2 : Int32) (μ : aw_M), AM l yX9_placeNext cX9_placeNext 6 none (20 + n) (1000 + 100 * n) aw_gv [.ref t, .int a0, .int a1, .int a2] μ (h_X9_placeNext F n t a0 a1 a2 μ)
  | 0, t, ht, a0, a1, a2, μ => fun D C ad sz r hr => by cases hr
  | n + 1, t, ht, a0, a1, a2, μ => n_X9_placeNext l F n _ (hm_X9_placeNext l F n) t ht a0 a1 a2 μ
def f_X9_placeNext (F : Nat) : Nat → Int32 → Int32 → Int32 → aw_M → Option aw_M := h_X9_placeNext F 12
theorem m_X9_placeNext (l : Launch) (F : Nat) (t : Nat) (ht : (aw_sh t).1 = 14) (a0 a1 a2 : Int32) (μ : aw_M) : AM l yX9_placeNext cX9_placeNext 6 none 32 2200 aw_gv [.ref t, .int a0, .int a1, .int a2] μ (f_X9_placeNext F t a0 a1 a2 μ) := hm_X9_placeNext l F 12 t ht a0 a1 a2 μ
abbrev k_X9_findOrder : aw_K := (RX9, cX9_findOrder, 5, (some .int), 33, 2225)
def f_X9_findOrder_131 (F : Nat) (t a0 a1 : Nat) (μ : aw_M) : Option (Int32 × aw_M) :=
  (f_X9_placeNext F t 0 0 0 μ).bind fun r21 =>
  some ((r21.1 t 4), r21)
theorem c_X9_findOrder_131 (l : Launch) (F : Nat) (t : Nat) (ht : (aw_sh t).1 = 14) (a0 : Nat) (ha0 : (aw_sh a0).1 = 13) (a1 : Nat) (ha1 : (aw_sh a1).1 = 6) (μ : aw_M) : AW l k_X9_findOrder aw_gi 131 [some (.ref t), none, none, none, none] [] μ (f_X9_findOrder_131 F t a0 a1 μ) := by
  unfold f_X9_findOrder_131
  refine aw_aload_n (n := 132) dX9_findOrder_131 rfl rfl ?_
  refine aw_iconst (n := 133) 0 dX9_findOrder_132 rfl (by decide) ?_
  refine aw_iconst (n := 134) 0 dX9_findOrder_133 rfl (by decide) ?_
  refine aw_iconst (n := 135) 0 dX9_findOrder_134 rfl (by decide) ?_
  refine aw_callVv (n := 138) (as := [.int 0, .int 0, .int 0]) (st := []) (RX9, TX9, 13) 9 dX9_findOrder_135 rfl rfl (m_X9_placeNext l F t ht 0 0 0 μ) ht (by decide) rfl rfl cw_RX9_61 ⟨Nat.le_of_ble_eq_true rfl, Nat.le_of_ble_eq_true rfl⟩ (fun _ => Nat.le_of_ble_eq_true rfl) (fun r21 => ?_)
  refine aw_aload_n (n := 139) dX9_findOrder_138 rfl rfl ?_
  refine aw_getI (n := 142) (RX9, TX9, 13) 9 4 dX9_findOrder_139 rfl ht (by decide) fd_RX9_44 ?_
  exact aw_ireturn dX9_findOrder_142 rfl rfl
def f_X9_findOrder_110 (F : Nat) (t a0 a1 : Nat) (k48 : Int32 × aw_M → Option (Int32 × aw_M)) (x3 : Int32) (μ : aw_M) : Option (Int32 × aw_M) :=
  aw_g (aw_in x3 8) (aw_let (aw_wI μ t 3 ((μ.1 t 3) ||| (μ.1 (aw_rf t 6) x3.toNatClampNeg))) fun μ23 =>
  k48 ((x3 + 1), μ23))
theorem c_X9_findOrder_110 (l : Launch) (F : Nat) (t : Nat) (ht : (aw_sh t).1 = 14) (a0 : Nat) (ha0 : (aw_sh a0).1 = 13) (a1 : Nat) (ha1 : (aw_sh a1).1 = 6) (k48 : Int32 × aw_M → Option (Int32 × aw_M)) (hk48 : ∀ s : Int32 × aw_M, AW l k_X9_findOrder aw_gi 48 [some (.ref t), some (.ref a0), some (.ref a1), some (.int s.1), none] [] s.2 (k48 s)) (x3 : Int32) (μ : aw_M) : AW l k_X9_findOrder aw_gi 110 [some (.ref t), some (.ref a0), some (.ref a1), some (.int x3), none] [] μ (f_X9_findOrder_110 F t a0 a1 k48 x3 μ) := by
  unfold f_X9_findOrder_110
  refine aw_aload_n (n := 111) dX9_findOrder_110 rfl rfl ?_
  refine aw_dup (n := 112) dX9_findOrder_111 rfl (fun _ => rfl) ?_
  refine aw_getI (n := 115) (RX9, TX9, 13) 9 3 dX9_findOrder_112 rfl ht (by decide) fd_RX9_41 ?_
  refine aw_aload_n (n := 116) dX9_findOrder_115 rfl rfl ?_
  refine aw_getR (n := 119) (RX9, TX9, 13) 9 6 dX9_findOrder_116 rfl ht (by decide) fd_RX9_18 ?_
  refine aw_iload_n (n := 120) dX9_findOrder_119 rfl rfl ?_
  refine aw_iaload (n := 121) 8 dX9_findOrder_120 rfl (sf_9_6 ht) ?_
  refine aw_ior (n := 122) dX9_findOrder_121 rfl ?_
  refine aw_putI (n := 125) (RX9, TX9, 13) 9 3 dX9_findOrder_122 rfl ht (by decide) fp_RX9_41 (fun μ23 => ?_)
  refine aw_iinc (n := 128) (x3 + 1) [some (.ref t), some (.ref a0), some (.ref a1), some (.int (x3 + 1)), none] dX9_findOrder_125 rfl rfl (by rfl) rfl (Nat.le_of_ble_eq_true rfl) rfl ?_
  refine aw_goto 48 dX9_findOrder_128 (by decide) ?_
  exact aw_weak (hk48 ((x3 + 1), μ23)) (aw_ss (aw_ss (aw_ss (aw_ss (aw_sn aw_s0)))))
def f_X9_findOrder_104 (F : Nat) (t a0 a1 : Nat) (k48 : Int32 × aw_M → Option (Int32 × aw_M)) (k66 : Int32 × Int32 × aw_M → Option (Int32 × aw_M)) (x3 : Int32) (x4 : Int32) (μ : aw_M) : Option (Int32 × aw_M) :=
  k66 (x3, (x4 + 1), μ)
theorem c_X9_findOrder_104 (l : Launch) (F : Nat) (t : Nat) (ht : (aw_sh t).1 = 14) (a0 : Nat) (ha0 : (aw_sh a0).1 = 13) (a1 : Nat) (ha1 : (aw_sh a1).1 = 6) (k48 : Int32 × aw_M → Option (Int32 × aw_M)) (hk48 : ∀ s : Int32 × aw_M, AW l k_X9_findOrder aw_gi 48 [some (.ref t), some (.ref a0), some (.ref a1), some (.int s.1), none] [] s.2 (k48 s)) (k66 : Int32 × Int32 × aw_M → Option (Int32 × aw_M)) (hk66 : ∀ s : Int32 × Int32 × aw_M, AW l k_X9_findOrder aw_gi 66 [some (.ref t), some (.ref a0), some (.ref a1), some (.int s.1), some (.int s.2.1)] [] s.2.2 (k66 s)) (x3 : Int32) (x4 : Int32) (μ : aw_M) : AW l k_X9_findOrder aw_gi 104 [some (.ref t), some (.ref a0), some (.ref a1), some (.int x3), some (.int x4)] [] μ (f_X9_findOrder_104 F t a0 a1 k48 k66 x3 x4 μ) := by
  unfold f_X9_findOrder_104
  refine aw_iinc (n := 107) (x4 + 1) [some (.ref t), some (.ref a0), some (.ref a1), some (.int x3), some (.int (x4 + 1))] dX9_findOrder_104 rfl rfl (by rfl) rfl (Nat.le_of_ble_eq_true rfl) rfl ?_
  refine aw_goto 66 dX9_findOrder_107 (by decide) ?_
  exact aw_weak (hk66 (x3, (x4 + 1), μ)) (aw_ss (aw_ss (aw_ss (aw_ss (aw_ss aw_s0)))))
def f_X9_findOrder_66 (F : Nat) (t a0 a1 : Nat) (k66 : Int32 × Int32 × aw_M → Option (Int32 × aw_M)) (k48 : Int32 × aw_M → Option (Int32 × aw_M)) (x3 : Int32) (x4 : Int32) (μ : aw_M) : Option (Int32 × aw_M) :=
  (if (μ.1 a0 3) ≤ x4 then
  f_X9_findOrder_110 F t a0 a1 k48 x3 μ
  else
  aw_g (aw_in ((x4 * 20) + x3) 360) ((if 3 < (μ.1 (aw_rf a1 0) ((x4 * 20) + x3).toNatClampNeg) then
  f_X9_findOrder_104 F t a0 a1 k48 k66 x3 x4 μ
  else
  aw_g (aw_in x3 8) (aw_g (aw_in x3 8) (aw_let (aw_wI μ (aw_rf t 6) x3.toNatClampNeg ((μ.1 (aw_rf t 6) x3.toNatClampNeg) ||| (1 <<< (x4 &&& 31)))) fun μ24 =>
  f_X9_findOrder_104 F t a0 a1 k48 k66 x3 x4 μ24)))))
theorem c_X9_findOrder_66 (l : Launch) (F : Nat) (t : Nat) (ht : (aw_sh t).1 = 14) (a0 : Nat) (ha0 : (aw_sh a0).1 = 13) (a1 : Nat) (ha1 : (aw_sh a1).1 = 6) (k48 : Int32 × aw_M → Option (Int32 × aw_M)) (hk48 : ∀ s : Int32 × aw_M, AW l k_X9_findOrder aw_gi 48 [some (.ref t), some (.ref a0), some (.ref a1), some (.int s.1), none] [] s.2 (k48 s)) : ∀ (N : Nat) (s : Int32 × Int32 × aw_M), AW l k_X9_findOrder aw_gi 66 [some (.ref t), some (.ref a0), some (.ref a1), some (.int s.1), some (.int s.2.1)] [] s.2.2 (aw_loop (fun k s => f_X9_findOrder_66 F t a0 a1 k k48 s.1 s.2.1 s.2.2) N s) := by
  refine aw_loop_ok (f := fun k s => f_X9_findOrder_66 F t a0 a1 k k48 s.1 s.2.1 s.2.2) (Ls := fun s => [some (.ref t), some (.ref a0), some (.ref a1), some (.int s.1), some (.int s.2.1)]) (ms := fun s => s.2.2) ?_
  intro k66 hk66 s
  obtain ⟨x3, x4, μ⟩ := s
  show AW l k_X9_findOrder aw_gi 66 [some (.ref t), some (.ref a0), some (.ref a1), some (.int x3), some (.int x4)] [] μ (f_X9_findOrder_66 F t a0 a1 k66 k48 x3 x4 μ)
  unfold f_X9_findOrder_66
  refine aw_iload (n := 68) dX9_findOrder_66 rfl rfl ?_
  refine aw_aload_n (n := 69) dX9_findOrder_68 rfl rfl ?_
  refine aw_getI (n := 72) (RX8, TX8, 20) 8 3 dX9_findOrder_69 rfl ha0 (by decide) fd_RX9_53 ?_
  refine aw_icmp_ge (n := 75) 110 dX9_findOrder_72 (by decide) rfl ?_ ?_
  · exact aw_weak (c_X9_findOrder_110 l F t ht a0 ha0 a1 ha1 k48 hk48 x3 μ) (aw_ss (aw_ss (aw_ss (aw_ss (aw_sn aw_s0)))))
  · refine aw_aload_n (n := 76) dX9_findOrder_75 rfl rfl ?_
    refine aw_getR (n := 79) (RX1, TX1, 12) 1 0 dX9_findOrder_76 rfl ha1 (by decide) fd_RX9_56 ?_
    refine aw_iload (n := 81) dX9_findOrder_79 rfl rfl ?_
    refine aw_bipush (n := 83) 20 dX9_findOrder_81 rfl (by decide) ?_
    refine aw_imul (n := 84) dX9_findOrder_83 rfl ?_
    refine aw_iload_n (n := 85) dX9_findOrder_84 rfl rfl ?_
    refine aw_iadd (n := 86) dX9_findOrder_85 rfl ?_
    refine aw_iaload (n := 87) 360 dX9_findOrder_86 rfl (sf_1_0 ha1) ?_
    refine aw_iconst (n := 88) 3 dX9_findOrder_87 rfl (by decide) ?_
    refine aw_icmp_gt (n := 91) 104 dX9_findOrder_88 (by decide) rfl ?_ ?_
    · exact aw_weak (c_X9_findOrder_104 l F t ht a0 ha0 a1 ha1 k48 hk48 k66 hk66 x3 x4 μ) (aw_ss (aw_ss (aw_ss (aw_ss (aw_ss aw_s0)))))
    · refine aw_aload_n (n := 92) dX9_findOrder_91 rfl rfl ?_
      refine aw_getR (n := 95) (RX9, TX9, 13) 9 6 dX9_findOrder_92 rfl ht (by decide) fd_RX9_18 ?_
      refine aw_iload_n (n := 96) dX9_findOrder_95 rfl rfl ?_
      refine aw_dup2 (n := 97) dX9_findOrder_96 rfl (fun _ => rfl) (fun _ => rfl) ?_
      refine aw_iaload (n := 98) 8 dX9_findOrder_97 rfl (sf_9_6 ht) ?_
      refine aw_iconst (n := 99) 1 dX9_findOrder_98 rfl (by decide) ?_
      refine aw_iload (n := 101) dX9_findOrder_99 rfl rfl ?_
      refine aw_ishl (n := 102) dX9_findOrder_101 rfl ?_
      refine aw_ior (n := 103) dX9_findOrder_102 rfl ?_
      refine aw_iastore (n := 104) 8 dX9_findOrder_103 rfl (sf_9_6 ht) (fun μ24 => ?_)
      exact aw_weak (c_X9_findOrder_104 l F t ht a0 ha0 a1 ha1 k48 hk48 k66 hk66 x3 x4 μ24) (aw_ss (aw_ss (aw_ss (aw_ss (aw_ss aw_s0)))))
def f_X9_findOrder_48 (F : Nat) (t a0 a1 : Nat) (k48 : Int32 × aw_M → Option (Int32 × aw_M)) (x3 : Int32) (μ : aw_M) : Option (Int32 × aw_M) :=
  (if (μ.1 t 2) ≤ x3 then
  f_X9_findOrder_131 F t a0 a1 μ
  else
  aw_g (aw_in x3 8) (aw_let (aw_wI μ (aw_rf t 6) x3.toNatClampNeg 0) fun μ22 =>
  aw_loop (fun k s => f_X9_findOrder_66 F t a0 a1 k k48 s.1 s.2.1 s.2.2) F (x3, 0, μ22)))
theorem c_X9_findOrder_48 (l : Launch) (F : Nat) (t : Nat) (ht : (aw_sh t).1 = 14) (a0 : Nat) (ha0 : (aw_sh a0).1 = 13) (a1 : Nat) (ha1 : (aw_sh a1).1 = 6) : ∀ (N : Nat) (s : Int32 × aw_M), AW l k_X9_findOrder aw_gi 48 [some (.ref t), some (.ref a0), some (.ref a1), some (.int s.1), none] [] s.2 (aw_loop (fun k s => f_X9_findOrder_48 F t a0 a1 k s.1 s.2) N s) := by
  refine aw_loop_ok (f := fun k s => f_X9_findOrder_48 F t a0 a1 k s.1 s.2) (Ls := fun s => [some (.ref t), some (.ref a0), some (.ref a1), some (.int s.1), none]) (ms := fun s => s.2) ?_
  intro k48 hk48 s
  obtain ⟨x3, μ⟩ := s
  show AW l k_X9_findOrder aw_gi 48 [some (.ref t), some (.ref a0), some (.ref a1), some (.int x3), none] [] μ (f_X9_findOrder_48 F t a0 a1 k48 x3 μ)
  unfold f_X9_findOrder_48
  refine aw_iload_n (n := 49) dX9_findOrder_48 rfl rfl ?_
  refine aw_aload_n (n := 50) dX9_findOrder_49 rfl rfl ?_
  refine aw_getI (n := 53) (RX9, TX9, 13) 9 2 dX9_findOrder_50 rfl ht (by decide) fd_RX9_40 ?_
  refine aw_icmp_ge (n := 56) 131 dX9_findOrder_53 (by decide) rfl ?_ ?_
  · exact aw_weak (c_X9_findOrder_131 l F t ht a0 ha0 a1 ha1 μ) (aw_ss (aw_sn (aw_sn (aw_sn (aw_sn aw_s0)))))
  · refine aw_aload_n (n := 57) dX9_findOrder_56 rfl rfl ?_
    refine aw_getR (n := 60) (RX9, TX9, 13) 9 6 dX9_findOrder_57 rfl ht (by decide) fd_RX9_18 ?_
    refine aw_iload_n (n := 61) dX9_findOrder_60 rfl rfl ?_
    refine aw_iconst (n := 62) 0 dX9_findOrder_61 rfl (by decide) ?_
    refine aw_iastore (n := 63) 8 dX9_findOrder_62 rfl (sf_9_6 ht) (fun μ22 => ?_)
    refine aw_iconst (n := 64) 0 dX9_findOrder_63 rfl (by decide) ?_
    refine aw_istore (n := 66) [some (.ref t), some (.ref a0), some (.ref a1), some (.int x3), some (.int 0)] dX9_findOrder_64 rfl rfl (Nat.le_of_ble_eq_true rfl) (Nat.le_of_ble_eq_true rfl) rfl ?_
    exact aw_weak (c_X9_findOrder_66 l F t ht a0 ha0 a1 ha1 k48 hk48 F (x3, 0, μ22)) (aw_ss (aw_ss (aw_ss (aw_ss (aw_ss aw_s0)))))
def f_X9_findOrder (F : Nat) (t a0 a1 : Nat) (μ : aw_M) : Option (Int32 × aw_M) :=
  (if (μ.1 a0 4) < 1 then
  some ((-1), μ)
  else
  (if (μ.1 a0 4) ≤ 8 then
  aw_let (aw_wI μ t 2 (μ.1 a0 4)) fun μ17 =>
  aw_let (aw_wI μ17 t 3 0) fun μ18 =>
  aw_let (aw_wI μ18 t 4 8) fun μ19 =>
  (f_J7_fill_53178 F (aw_rf t 7) (-1) μ19).bind fun r20 =>
  aw_loop (fun k s => f_X9_findOrder_48 F t a0 a1 k s.1 s.2) F (0, r20)
  else
  some ((-1), μ)))
theorem m_X9_findOrder (l : Launch) (F : Nat) (t : Nat) (ht : (aw_sh t).1 = 14) (a0 : Nat) (ha0 : (aw_sh a0).1 = 13) (a1 : Nat) (ha1 : (aw_sh a1).1 = 6) (μ : aw_M) : AM l yX9_findOrder cX9_findOrder 5 (some .int) (33) (2225) aw_gi [.ref t, .ref a0, .ref a1] μ (f_X9_findOrder F t a0 a1 μ) := by
  refine aw_met [some (.ref t), some (.ref a0), some (.ref a1), none, none] (by decide) (fun _ => rfl) (fun _ => Nat.le_of_ble_eq_true rfl) ?_
  show AW l k_X9_findOrder aw_gi 0 [some (.ref t), some (.ref a0), some (.ref a1), none, none] [] μ _
  unfold f_X9_findOrder
  refine aw_aload_n (n := 1) dX9_findOrder_0 rfl rfl ?_
  refine aw_getI (n := 4) (RX8, TX8, 20) 8 4 dX9_findOrder_1 rfl ha0 (by decide) fd_RX9_34 ?_
  refine aw_iconst (n := 5) 1 dX9_findOrder_4 rfl (by decide) ?_
  refine aw_icmp_lt (n := 8) 17 dX9_findOrder_5 (by decide) rfl ?_ ?_
  · refine aw_iconst (n := 18) (-1) dX9_findOrder_17 rfl (by decide) ?_
    exact aw_ireturn dX9_findOrder_18 rfl rfl
  · refine aw_aload_n (n := 9) dX9_findOrder_8 rfl rfl ?_
    refine aw_getI (n := 12) (RX8, TX8, 20) 8 4 dX9_findOrder_9 rfl ha0 (by decide) fd_RX9_34 ?_
    refine aw_bipush (n := 14) 8 dX9_findOrder_12 rfl (by decide) ?_
    refine aw_icmp_le (n := 17) 19 dX9_findOrder_14 (by decide) rfl ?_ ?_
    · refine aw_aload_n (n := 20) dX9_findOrder_19 rfl rfl ?_
      refine aw_aload_n (n := 21) dX9_findOrder_20 rfl rfl ?_
      refine aw_getI (n := 24) (RX8, TX8, 20) 8 4 dX9_findOrder_21 rfl ha0 (by decide) fd_RX9_34 ?_
      refine aw_putI (n := 27) (RX9, TX9, 13) 9 2 dX9_findOrder_24 rfl ht (by decide) fp_RX9_40 (fun μ17 => ?_)
      refine aw_aload_n (n := 28) dX9_findOrder_27 rfl rfl ?_
      refine aw_iconst (n := 29) 0 dX9_findOrder_28 rfl (by decide) ?_
      refine aw_putI (n := 32) (RX9, TX9, 13) 9 3 dX9_findOrder_29 rfl ht (by decide) fp_RX9_41 (fun μ18 => ?_)
      refine aw_aload_n (n := 33) dX9_findOrder_32 rfl rfl ?_
      refine aw_bipush (n := 35) 8 dX9_findOrder_33 rfl (by decide) ?_
      refine aw_putI (n := 38) (RX9, TX9, 13) 9 4 dX9_findOrder_35 rfl ht (by decide) fp_RX9_44 (fun μ19 => ?_)
      refine aw_aload_n (n := 39) dX9_findOrder_38 rfl rfl ?_
      refine aw_getR (n := 42) (RX9, TX9, 13) 9 7 dX9_findOrder_39 rfl ht (by decide) fd_RX9_21 ?_
      refine aw_iconst (n := 43) (-1) dX9_findOrder_42 rfl (by decide) ?_
      refine aw_callSv (n := 46) (as := [.ref (aw_rf t 7), .int (-1)]) (st := []) dX9_findOrder_43 rfl rfl (m_J7_fill_53178 l F (aw_rf t 7) (aw_arr (sf_9_7 ht)) (-1) μ19) cw_RX9_47 ⟨Nat.le_of_ble_eq_true rfl, Nat.le_of_ble_eq_true rfl⟩ (fun _ => Nat.le_of_ble_eq_true rfl) (fun r20 => ?_)
      refine aw_iconst (n := 47) 0 dX9_findOrder_46 rfl (by decide) ?_
      refine aw_istore_n (n := 48) [some (.ref t), some (.ref a0), some (.ref a1), some (.int 0), none] dX9_findOrder_47 rfl rfl (Nat.le_of_ble_eq_true rfl) (Nat.le_of_ble_eq_true rfl) rfl ?_
      exact aw_weak (c_X9_findOrder_48 l F t ht a0 ha0 a1 ha1 F (0, r20)) (aw_ss (aw_ss (aw_ss (aw_ss (aw_sn aw_s0)))))
    · refine aw_iconst (n := 18) (-1) dX9_findOrder_17 rfl (by decide) ?_
      exact aw_ireturn dX9_findOrder_18 rfl rfl
abbrev k_X10_sentence : aw_K := (RX10, cX10_sentence, 2, (some .int), 60, 3546)
def f_X10_sentence_37 (F : Nat) (t : Nat) (x1 : Bool) (μ : aw_M) : Option (Int32 × aw_M) :=
  (f_X10_closeText F t (aw_b x1) (μ.1 (aw_rf t 6) 0) μ).bind fun r5 =>
  some (r5.1, r5.2)
theorem c_X10_sentence_37 (l : Launch) (F : Nat) (t : Nat) (ht : (aw_sh t).1 = 15) (x1 : Bool) (μ : aw_M) : AW l k_X10_sentence aw_gi 37 [some (.ref t), some (.int (aw_b x1))] [] μ (f_X10_sentence_37 F t x1 μ) := by
  unfold f_X10_sentence_37
  refine aw_aload_n (n := 38) dX10_sentence_37 rfl rfl ?_
  refine aw_iload_n (n := 39) dX10_sentence_38 rfl rfl ?_
  refine aw_aload_n (n := 40) dX10_sentence_39 rfl rfl ?_
  refine aw_getR (n := 43) (RX10, TX10, 12) 10 6 dX10_sentence_40 rfl ht (by decide) fd_RX10_48 ?_
  refine aw_getI (n := 46) (RX3, TX3, 6) 3 0 dX10_sentence_43 rfl (sf_10_6 ht) (by decide) fd_RX10_136 ?_
  refine aw_callVi (n := 49) (as := [.int (aw_b x1), .int (μ.1 (aw_rf t 6) 0)]) (st := []) (RX10, TX10, 12) 10 dX10_sentence_46 rfl rfl (m_X10_closeText l F t ht (aw_b x1) (μ.1 (aw_rf t 6) 0) μ) ht (by decide) rfl rfl cw_RX10_115 ⟨Nat.le_of_ble_eq_true rfl, Nat.le_of_ble_eq_true rfl⟩ (fun _ => Nat.le_of_ble_eq_true rfl) (fun r5 => ?_)
  exact aw_ireturn dX10_sentence_49 rfl rfl
def f_X10_sentence (F : Nat) (t : Nat) (μ : aw_M) : Option (Int32 × aw_M) :=
  (f_X3_readFrom F (aw_rf t 6) (aw_rf t 0) (aw_rf (aw_rf t 1) 0) μ).bind fun r4 =>
  (if r4.1 = true then
  (f_X3_takeFrom F (aw_rf (aw_rf t 1) 2) (aw_rf t 6) r4.2).bind fun r6 =>
  f_X10_sentence_37 F t r4.1 r6
  else
  f_X10_sentence_37 F t r4.1 r4.2)
theorem m_X10_sentence (l : Launch) (F : Nat) (t : Nat) (ht : (aw_sh t).1 = 15) (μ : aw_M) : AM l yX10_sentence cX10_sentence 2 (some .int) (60) (3546) aw_gi [.ref t] μ (f_X10_sentence F t μ) := by
  refine aw_met [some (.ref t), none] (by decide) (fun _ => rfl) (fun _ => Nat.le_of_ble_eq_true rfl) ?_
  show AW l k_X10_sentence aw_gi 0 [some (.ref t), none] [] μ _
  unfold f_X10_sentence
  refine aw_aload_n (n := 1) dX10_sentence_0 rfl rfl ?_
  refine aw_getR (n := 4) (RX10, TX10, 12) 10 6 dX10_sentence_1 rfl ht (by decide) fd_RX10_48 ?_
  refine aw_aload_n (n := 5) dX10_sentence_4 rfl rfl ?_
  refine aw_getR (n := 8) (RX10, TX10, 12) 10 0 dX10_sentence_5 rfl ht (by decide) fd_RX10_12 ?_
  refine aw_aload_n (n := 9) dX10_sentence_8 rfl rfl ?_
  refine aw_getR (n := 12) (RX10, TX10, 12) 10 1 dX10_sentence_9 rfl ht (by decide) fd_RX10_19 ?_
  refine aw_getR (n := 15) (RX4, TX4, 5) 4 0 dX10_sentence_12 rfl (sf_10_1 ht) (by decide) fd_RX10_54 ?_
  refine aw_callVz (n := 18) (as := [.ref (aw_rf t 0), .ref (aw_rf (aw_rf t 1) 0)]) (st := []) (RX3, TX3, 6) 3 dX10_sentence_15 rfl rfl (m_X3_readFrom l F (aw_rf t 6) (sf_10_6 ht) (aw_rf t 0) (sf_10_0 ht) (aw_rf (aw_rf t 1) 0) (sf_4_0 (sf_10_1 ht)) μ) (sf_10_6 ht) (by decide) rfl rfl cw_RX10_129 ⟨Nat.le_of_ble_eq_true rfl, Nat.le_of_ble_eq_true rfl⟩ (fun _ => Nat.le_of_ble_eq_true rfl) (fun r4 => ?_)
  refine aw_istore_n (n := 19) [some (.ref t), some (.int (aw_b r4.1))] dX10_sentence_18 rfl rfl (Nat.le_of_ble_eq_true rfl) (Nat.le_of_ble_eq_true rfl) rfl ?_
  refine aw_iload_n (n := 20) dX10_sentence_19 rfl rfl ?_
  refine aw_ifb_eq (n := 23) 37 dX10_sentence_20 (by decide) rfl ?_ ?_
  · exact aw_weak (c_X10_sentence_37 l F t ht r4.1 r4.2) (aw_ss (aw_ss aw_s0))
  · refine aw_aload_n (n := 24) dX10_sentence_23 rfl rfl ?_
    refine aw_getR (n := 27) (RX10, TX10, 12) 10 1 dX10_sentence_24 rfl ht (by decide) fd_RX10_19 ?_
    refine aw_getR (n := 30) (RX4, TX4, 5) 4 2 dX10_sentence_27 rfl (sf_10_1 ht) (by decide) fd_RX10_130 ?_
    refine aw_aload_n (n := 31) dX10_sentence_30 rfl rfl ?_
    refine aw_getR (n := 34) (RX10, TX10, 12) 10 6 dX10_sentence_31 rfl ht (by decide) fd_RX10_48 ?_
    refine aw_callVv (n := 37) (as := [.ref (aw_rf t 6)]) (st := []) (RX3, TX3, 6) 3 dX10_sentence_34 rfl rfl (m_X3_takeFrom l F (aw_rf (aw_rf t 1) 2) (sf_4_2 (sf_10_1 ht)) (aw_rf t 6) (sf_10_6 ht) r4.2) (sf_4_2 (sf_10_1 ht)) (by decide) rfl rfl cw_RX10_133 ⟨Nat.le_of_ble_eq_true rfl, Nat.le_of_ble_eq_true rfl⟩ (fun _ => Nat.le_of_ble_eq_true rfl) (fun r6 => ?_)
    exact aw_weak (c_X10_sentence_37 l F t ht r4.1 r6) (aw_ss (aw_ss aw_s0))
abbrev k_X10_order : aw_K := (RX10, cX10_order, 1, (some .int), 34, 2249)
def f_X10_order (F : Nat) (t : Nat) (μ : aw_M) : Option (Int32 × aw_M) :=
  (f_X9_findOrder F (aw_rf t 10) (aw_rf (aw_rf t 1) 0) (aw_rf (aw_rf t 1) 3) μ).bind fun r1 =>
  some (r1.1, r1.2)
theorem m_X10_order (l : Launch) (F : Nat) (t : Nat) (ht : (aw_sh t).1 = 15) (μ : aw_M) : AM l yX10_order cX10_order 1 (some .int) (34) (2249) aw_gi [.ref t] μ (f_X10_order F t μ) := by
  refine aw_met [some (.ref t)] (by decide) (fun _ => rfl) (fun _ => Nat.le_of_ble_eq_true rfl) ?_
  show AW l k_X10_order aw_gi 0 [some (.ref t)] [] μ _
  unfold f_X10_order
  refine aw_aload_n (n := 1) dX10_order_0 rfl rfl ?_
  refine aw_getR (n := 4) (RX10, TX10, 12) 10 10 dX10_order_1 rfl ht (by decide) fd_RX10_88 ?_
  refine aw_aload_n (n := 5) dX10_order_4 rfl rfl ?_
  refine aw_getR (n := 8) (RX10, TX10, 12) 10 1 dX10_order_5 rfl ht (by decide) fd_RX10_19 ?_
  refine aw_getR (n := 11) (RX4, TX4, 5) 4 0 dX10_order_8 rfl (sf_10_1 ht) (by decide) fd_RX10_54 ?_
  refine aw_aload_n (n := 12) dX10_order_11 rfl rfl ?_
  refine aw_getR (n := 15) (RX10, TX10, 12) 10 1 dX10_order_12 rfl ht (by decide) fd_RX10_19 ?_
  refine aw_getR (n := 18) (RX4, TX4, 5) 4 3 dX10_order_15 rfl (sf_10_1 ht) (by decide) fd_RX10_60 ?_
  refine aw_callVi (n := 21) (as := [.ref (aw_rf (aw_rf t 1) 0), .ref (aw_rf (aw_rf t 1) 3)]) (st := []) (RX9, TX9, 13) 9 dX10_order_18 rfl rfl (m_X9_findOrder l F (aw_rf t 10) (sf_10_10 ht) (aw_rf (aw_rf t 1) 0) (sf_4_0 (sf_10_1 ht)) (aw_rf (aw_rf t 1) 3) (sf_4_3 (sf_10_1 ht)) μ) (sf_10_10 ht) (by decide) rfl rfl cw_RX10_277 ⟨Nat.le_of_ble_eq_true rfl, Nat.le_of_ble_eq_true rfl⟩ (fun _ => Nat.le_of_ble_eq_true rfl) (fun r1 => ?_)
  exact aw_ireturn dX10_order_21 rfl rfl
