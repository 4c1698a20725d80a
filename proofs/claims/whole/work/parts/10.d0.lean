theorem dX10_copyRow_0 : decode cX10_copyRow 0 = .ok (.aload_n 0, 1) := by decide +kernel
theorem dX10_copyRow_1 : decode cX10_copyRow 1 = .ok (.iconst 0, 1) := by decide +kernel
theorem dX10_copyRow_2 : decode cX10_copyRow 2 = .ok (.aload_n 1, 1) := by decide +kernel
theorem dX10_copyRow_3 : decode cX10_copyRow 3 = .ok (.iconst 0, 1) := by decide +kernel
theorem dX10_copyRow_4 : decode cX10_copyRow 4 = .ok (.aload_n 0, 1) := by decide +kernel
theorem dX10_copyRow_5 : decode cX10_copyRow 5 = .ok (.arraylength, 1) := by decide +kernel
theorem dX10_copyRow_6 : decode cX10_copyRow 6 = .ok (.aload_n 1, 1) := by decide +kernel
theorem dX10_copyRow_7 : decode cX10_copyRow 7 = .ok (.arraylength, 1) := by decide +kernel
theorem dX10_copyRow_8 : decode cX10_copyRow 8 = .ok (.invokestatic 369, 3) := by decide +kernel
theorem dX10_copyRow_11 : decode cX10_copyRow 11 = .ok (.invokestatic 374, 3) := by decide +kernel
theorem dX10_copyRow_14 : decode cX10_copyRow 14 = .ok (.return_, 1) := by decide +kernel
theorem dJ7_fill_53178_0 : decode cJ7_fill_53178 0 = .ok (.iconst 0, 1) := by decide +kernel
theorem dJ7_fill_53178_1 : decode cJ7_fill_53178 1 = .ok (.istore_n 2, 1) := by decide +kernel
theorem dJ7_fill_53178_2 : decode cJ7_fill_53178 2 = .ok (.aload_n 0, 1) := by decide +kernel
theorem dJ7_fill_53178_3 : decode cJ7_fill_53178 3 = .ok (.arraylength, 1) := by decide +kernel
theorem dJ7_fill_53178_4 : decode cJ7_fill_53178 4 = .ok (.istore_n 3, 1) := by decide +kernel
theorem dJ7_fill_53178_5 : decode cJ7_fill_53178 5 = .ok (.iload_n 2, 1) := by decide +kernel
theorem dJ7_fill_53178_6 : decode cJ7_fill_53178 6 = .ok (.iload_n 3, 1) := by decide +kernel
theorem dJ7_fill_53178_7 : decode cJ7_fill_53178 7 = .ok (.if_icmp .ge 13, 3) := by decide +kernel
theorem dJ7_fill_53178_10 : decode cJ7_fill_53178 10 = .ok (.aload_n 0, 1) := by decide +kernel
theorem dJ7_fill_53178_11 : decode cJ7_fill_53178 11 = .ok (.iload_n 2, 1) := by decide +kernel
theorem dJ7_fill_53178_12 : decode cJ7_fill_53178 12 = .ok (.iload_n 1, 1) := by decide +kernel
theorem dJ7_fill_53178_13 : decode cJ7_fill_53178 13 = .ok (.iastore, 1) := by decide +kernel
theorem dJ7_fill_53178_14 : decode cJ7_fill_53178 14 = .ok (.iinc 2 1, 3) := by decide +kernel
theorem dJ7_fill_53178_17 : decode cJ7_fill_53178 17 = .ok (.goto (-12), 3) := by decide +kernel
theorem dJ7_fill_53178_20 : decode cJ7_fill_53178 20 = .ok (.return_, 1) := by decide +kernel
theorem dX6_atKey_0 : decode cX6_atKey 0 = .ok (.aload_n 0, 1) := by decide +kernel
theorem dX6_atKey_1 : decode cX6_atKey 1 = .ok (.getfield 62, 3) := by decide +kernel
theorem dX6_atKey_4 : decode cX6_atKey 4 = .ok (.iconst 1, 1) := by decide +kernel
theorem dX6_atKey_5 : decode cX6_atKey 5 = .ok (.if_icmp .ne 15, 3) := by decide +kernel
theorem dX6_atKey_8 : decode cX6_atKey 8 = .ok (.aload_n 0, 1) := by decide +kernel
theorem dX6_atKey_9 : decode cX6_atKey 9 = .ok (.getfield 59, 3) := by decide +kernel
theorem dX6_atKey_12 : decode cX6_atKey 12 = .ok (.iload_n 1, 1) := by decide +kernel
theorem dX6_atKey_13 : decode cX6_atKey 13 = .ok (.if_icmp .ne 7, 3) := by decide +kernel
theorem dX6_atKey_16 : decode cX6_atKey 16 = .ok (.iconst 1, 1) := by decide +kernel
theorem dX6_atKey_17 : decode cX6_atKey 17 = .ok (.goto 4, 3) := by decide +kernel
theorem dX6_atKey_20 : decode cX6_atKey 20 = .ok (.iconst 0, 1) := by decide +kernel
theorem dX6_atKey_21 : decode cX6_atKey 21 = .ok (.ireturn, 1) := by decide +kernel
theorem dX6_atName_0 : decode cX6_atName 0 = .ok (.aload_n 0, 1) := by decide +kernel
theorem dX6_atName_1 : decode cX6_atName 1 = .ok (.getfield 62, 3) := by decide +kernel
theorem dX6_atName_4 : decode cX6_atName 4 = .ok (.iconst 1, 1) := by decide +kernel
theorem dX6_atName_5 : decode cX6_atName 5 = .ok (.if_icmp .ne 15, 3) := by decide +kernel
theorem dX6_atName_8 : decode cX6_atName 8 = .ok (.aload_n 0, 1) := by decide +kernel
theorem dX6_atName_9 : decode cX6_atName 9 = .ok (.getfield 59, 3) := by decide +kernel
theorem dX6_atName_12 : decode cX6_atName 12 = .ok (.iconst (-1), 1) := by decide +kernel
theorem dX6_atName_13 : decode cX6_atName 13 = .ok (.if_icmp .ne 7, 3) := by decide +kernel
theorem dX6_atName_16 : decode cX6_atName 16 = .ok (.iconst 1, 1) := by decide +kernel
theorem dX6_atName_17 : decode cX6_atName 17 = .ok (.goto 4, 3) := by decide +kernel
theorem dX6_atName_20 : decode cX6_atName 20 = .ok (.iconst 0, 1) := by decide +kernel
theorem dX6_atName_21 : decode cX6_atName 21 = .ok (.ireturn, 1) := by decide +kernel
theorem dX6_fail_0 : decode cX6_fail 0 = .ok (.aload_n 0, 1) := by decide +kernel
theorem dX6_fail_1 : decode cX6_fail 1 = .ok (.iload_n 1, 1) := by decide +kernel
theorem dX6_fail_2 : decode cX6_fail 2 = .ok (.putfield 43, 3) := by decide +kernel
theorem dX6_fail_5 : decode cX6_fail 5 = .ok (.aload_n 0, 1) := by decide +kernel
theorem dX6_fail_6 : decode cX6_fail 6 = .ok (.aload_n 0, 1) := by decide +kernel
theorem dX6_fail_7 : decode cX6_fail 7 = .ok (.getfield 56, 3) := by decide +kernel
theorem dX6_fail_10 : decode cX6_fail 10 = .ok (.putfield 46, 3) := by decide +kernel
theorem dX6_fail_13 : decode cX6_fail 13 = .ok (.iconst 0, 1) := by decide +kernel
theorem dX6_fail_14 : decode cX6_fail 14 = .ok (.ireturn, 1) := by decide +kernel
theorem dX6_seeNumber_0 : decode cX6_seeNumber 0 = .ok (.aload_n 0, 1) := by decide +kernel
theorem dX6_seeNumber_1 : decode cX6_seeNumber 1 = .ok (.getfield 62, 3) := by decide +kernel
theorem dX6_seeNumber_4 : decode cX6_seeNumber 4 = .ok (.iconst 2, 1) := by decide +kernel
theorem dX6_seeNumber_5 : decode cX6_seeNumber 5 = .ok (.if_icmp .eq 9, 3) := by decide +kernel
theorem dX6_seeNumber_8 : decode cX6_seeNumber 8 = .ok (.aload_n 0, 1) := by decide +kernel
theorem dX6_seeNumber_9 : decode cX6_seeNumber 9 = .ok (.iconst 1, 1) := by decide +kernel
theorem dX6_seeNumber_10 : decode cX6_seeNumber 10 = .ok (.invokevirtual 88, 3) := by decide +kernel
theorem dX6_seeNumber_13 : decode cX6_seeNumber 13 = .ok (.ireturn, 1) := by decide +kernel
theorem dX6_seeNumber_14 : decode cX6_seeNumber 14 = .ok (.aload_n 0, 1) := by decide +kernel
theorem dX6_seeNumber_15 : decode cX6_seeNumber 15 = .ok (.getfield 82, 3) := by decide +kernel
theorem dX6_seeNumber_18 : decode cX6_seeNumber 18 = .ok (.iload_n 1, 1) := by decide +kernel
theorem dX6_seeNumber_19 : decode cX6_seeNumber 19 = .ok (.if_icmp .lt 11, 3) := by decide +kernel
theorem dX6_seeNumber_22 : decode cX6_seeNumber 22 = .ok (.aload_n 0, 1) := by decide +kernel
theorem dX6_seeNumber_23 : decode cX6_seeNumber 23 = .ok (.getfield 82, 3) := by decide +kernel
theorem dX6_seeNumber_26 : decode cX6_seeNumber 26 = .ok (.iload_n 2, 1) := by decide +kernel
theorem dX6_seeNumber_27 : decode cX6_seeNumber 27 = .ok (.if_icmp .le 11, 3) := by decide +kernel
theorem dX6_seeNumber_30 : decode cX6_seeNumber 30 = .ok (.aload_n 0, 1) := by decide +kernel
theorem dX6_seeNumber_31 : decode cX6_seeNumber 31 = .ok (.iconst 2, 1) := by decide +kernel
theorem dX6_seeNumber_32 : decode cX6_seeNumber 32 = .ok (.invokevirtual 88, 3) := by decide +kernel
theorem dX6_seeNumber_35 : decode cX6_seeNumber 35 = .ok (.ifCond .eq 7, 3) := by decide +kernel
theorem dX6_seeNumber_38 : decode cX6_seeNumber 38 = .ok (.iconst 1, 1) := by decide +kernel
theorem dX6_seeNumber_39 : decode cX6_seeNumber 39 = .ok (.goto 4, 3) := by decide +kernel
theorem dX6_seeNumber_42 : decode cX6_seeNumber 42 = .ok (.iconst 0, 1) := by decide +kernel
theorem dX6_seeNumber_43 : decode cX6_seeNumber 43 = .ok (.ireturn, 1) := by decide +kernel
theorem dX6_isBlank_0 : decode cX6_isBlank 0 = .ok (.iload_n 0, 1) := by decide +kernel
theorem dX6_isBlank_1 : decode cX6_isBlank 1 = .ok (.bipush 32, 2) := by decide +kernel
theorem dX6_isBlank_3 : decode cX6_isBlank 3 = .ok (.if_icmp .eq 9, 3) := by decide +kernel
theorem dX6_isBlank_6 : decode cX6_isBlank 6 = .ok (.iload_n 0, 1) := by decide +kernel
theorem dX6_isBlank_7 : decode cX6_isBlank 7 = .ok (.bipush 10, 2) := by decide +kernel
theorem dX6_isBlank_9 : decode cX6_isBlank 9 = .ok (.if_icmp .ne 7, 3) := by decide +kernel
theorem dX6_isBlank_12 : decode cX6_isBlank 12 = .ok (.iconst 1, 1) := by decide +kernel
theorem dX6_isBlank_13 : decode cX6_isBlank 13 = .ok (.goto 4, 3) := by decide +kernel
theorem dX6_isBlank_16 : decode cX6_isBlank 16 = .ok (.iconst 0, 1) := by decide +kernel
theorem dX6_isBlank_17 : decode cX6_isBlank 17 = .ok (.ireturn, 1) := by decide +kernel
theorem dX6_isSign_0 : decode cX6_isSign 0 = .ok (.iload_n 0, 1) := by decide +kernel
theorem dX6_isSign_1 : decode cX6_isSign 1 = .ok (.bipush 59, 2) := by decide +kernel
theorem dX6_isSign_3 : decode cX6_isSign 3 = .ok (.if_icmp .eq 33, 3) := by decide +kernel
theorem dX6_isSign_6 : decode cX6_isSign 6 = .ok (.iload_n 0, 1) := by decide +kernel
theorem dX6_isSign_7 : decode cX6_isSign 7 = .ok (.bipush 60, 2) := by decide +kernel
theorem dX6_isSign_9 : decode cX6_isSign 9 = .ok (.if_icmp .eq 27, 3) := by decide +kernel
theorem dX6_isSign_12 : decode cX6_isSign 12 = .ok (.iload_n 0, 1) := by decide +kernel
theorem dX6_isSign_13 : decode cX6_isSign 13 = .ok (.bipush 61, 2) := by decide +kernel
theorem dX6_isSign_15 : decode cX6_isSign 15 = .ok (.if_icmp .eq 21, 3) := by decide +kernel
theorem dX6_isSign_18 : decode cX6_isSign 18 = .ok (.iload_n 0, 1) := by decide +kernel
theorem dX6_isSign_19 : decode cX6_isSign 19 = .ok (.bipush 62, 2) := by decide +kernel
theorem dX6_isSign_21 : decode cX6_isSign 21 = .ok (.if_icmp .eq 15, 3) := by decide +kernel
theorem dX6_isSign_24 : decode cX6_isSign 24 = .ok (.iload_n 0, 1) := by decide +kernel
theorem dX6_isSign_25 : decode cX6_isSign 25 = .ok (.bipush 40, 2) := by decide +kernel
theorem dX6_isSign_27 : decode cX6_isSign 27 = .ok (.if_icmp .eq 9, 3) := by decide +kernel
theorem dX6_isSign_30 : decode cX6_isSign 30 = .ok (.iload_n 0, 1) := by decide +kernel
theorem dX6_isSign_31 : decode cX6_isSign 31 = .ok (.bipush 41, 2) := by decide +kernel
theorem dX6_isSign_33 : decode cX6_isSign 33 = .ok (.if_icmp .ne 7, 3) := by decide +kernel
theorem dX6_isSign_36 : decode cX6_isSign 36 = .ok (.iconst 1, 1) := by decide +kernel
theorem dX6_isSign_37 : decode cX6_isSign 37 = .ok (.goto 4, 3) := by decide +kernel
theorem dX6_isSign_40 : decode cX6_isSign 40 = .ok (.iconst 0, 1) := by decide +kernel
theorem dX6_isSign_41 : decode cX6_isSign 41 = .ok (.ireturn, 1) := by decide +kernel
theorem dX6_keyOf_0 : decode cX6_keyOf 0 = .ok (.iconst 0, 1) := by decide +kernel
theorem dX6_keyOf_1 : decode cX6_keyOf 1 = .ok (.istore_n 3, 1) := by decide +kernel
theorem dX6_keyOf_2 : decode cX6_keyOf 2 = .ok (.iload_n 3, 1) := by decide +kernel
theorem dX6_keyOf_3 : decode cX6_keyOf 3 = .ok (.bipush 20, 2) := by decide +kernel
theorem dX6_keyOf_5 : decode cX6_keyOf 5 = .ok (.if_icmp .ge 22, 3) := by decide +kernel
theorem dX6_keyOf_8 : decode cX6_keyOf 8 = .ok (.aload_n 0, 1) := by decide +kernel
theorem dX6_keyOf_9 : decode cX6_keyOf 9 = .ok (.getfield 15, 3) := by decide +kernel
theorem dX6_keyOf_12 : decode cX6_keyOf 12 = .ok (.iload_n 3, 1) := by decide +kernel
theorem dX6_keyOf_13 : decode cX6_keyOf 13 = .ok (.laload, 1) := by decide +kernel
theorem dX6_keyOf_14 : decode cX6_keyOf 14 = .ok (.lload_n 1, 1) := by decide +kernel
theorem dX6_keyOf_15 : decode cX6_keyOf 15 = .ok (.lcmp, 1) := by decide +kernel
theorem dX6_keyOf_16 : decode cX6_keyOf 16 = .ok (.ifCond .ne 5, 3) := by decide +kernel
theorem dX6_keyOf_19 : decode cX6_keyOf 19 = .ok (.iload_n 3, 1) := by decide +kernel
theorem dX6_keyOf_20 : decode cX6_keyOf 20 = .ok (.ireturn, 1) := by decide +kernel
theorem dX6_keyOf_21 : decode cX6_keyOf 21 = .ok (.iinc 3 1, 3) := by decide +kernel
theorem dX6_keyOf_24 : decode cX6_keyOf 24 = .ok (.goto (-22), 3) := by decide +kernel
theorem dX6_keyOf_27 : decode cX6_keyOf 27 = .ok (.iconst (-1), 1) := by decide +kernel
theorem dX6_keyOf_28 : decode cX6_keyOf 28 = .ok (.ireturn, 1) := by decide +kernel
theorem dX6_readRun_0 : decode cX6_readRun 0 = .ok (.iconst 0, 1) := by decide +kernel
theorem dX6_readRun_1 : decode cX6_readRun 1 = .ok (.istore_n 1, 1) := by decide +kernel
theorem dX6_readRun_2 : decode cX6_readRun 2 = .ok (.iconst 0, 1) := by decide +kernel
theorem dX6_readRun_3 : decode cX6_readRun 3 = .ok (.istore_n 2, 1) := by decide +kernel
theorem dX6_readRun_4 : decode cX6_readRun 4 = .ok (.aload_n 0, 1) := by decide +kernel
theorem dX6_readRun_5 : decode cX6_readRun 5 = .ok (.lconst 0, 1) := by decide +kernel
theorem dX6_readRun_6 : decode cX6_readRun 6 = .ok (.putfield 74, 3) := by decide +kernel
theorem dX6_readRun_9 : decode cX6_readRun 9 = .ok (.aload_n 0, 1) := by decide +kernel
theorem dX6_readRun_10 : decode cX6_readRun 10 = .ok (.iconst 0, 1) := by decide +kernel
theorem dX6_readRun_11 : decode cX6_readRun 11 = .ok (.putfield 82, 3) := by decide +kernel
theorem dX6_readRun_14 : decode cX6_readRun 14 = .ok (.aload_n 0, 1) := by decide +kernel
theorem dX6_readRun_15 : decode cX6_readRun 15 = .ok (.getfield 40, 3) := by decide +kernel
theorem dX6_readRun_18 : decode cX6_readRun 18 = .ok (.aload_n 0, 1) := by decide +kernel
theorem dX6_readRun_19 : decode cX6_readRun 19 = .ok (.getfield 33, 3) := by decide +kernel
theorem dX6_readRun_22 : decode cX6_readRun 22 = .ok (.if_icmp .ge 120, 3) := by decide +kernel
theorem dX6_readRun_25 : decode cX6_readRun 25 = .ok (.aload_n 0, 1) := by decide +kernel
theorem dX6_readRun_26 : decode cX6_readRun 26 = .ok (.getfield 11, 3) := by decide +kernel
theorem dX6_readRun_29 : decode cX6_readRun 29 = .ok (.aload_n 0, 1) := by decide +kernel
theorem dX6_readRun_30 : decode cX6_readRun 30 = .ok (.getfield 40, 3) := by decide +kernel
theorem dX6_readRun_33 : decode cX6_readRun 33 = .ok (.iaload, 1) := by decide +kernel
theorem dX6_readRun_34 : decode cX6_readRun 34 = .ok (.istore_n 3, 1) := by decide +kernel
theorem dX6_readRun_35 : decode cX6_readRun 35 = .ok (.iload_n 3, 1) := by decide +kernel
theorem dX6_readRun_36 : decode cX6_readRun 36 = .ok (.bipush 48, 2) := by decide +kernel
theorem dX6_readRun_38 : decode cX6_readRun 38 = .ok (.if_icmp .lt 43, 3) := by decide +kernel
theorem dX6_readRun_41 : decode cX6_readRun 41 = .ok (.iload_n 3, 1) := by decide +kernel
theorem dX6_readRun_42 : decode cX6_readRun 42 = .ok (.bipush 57, 2) := by decide +kernel
theorem dX6_readRun_44 : decode cX6_readRun 44 = .ok (.if_icmp .gt 37, 3) := by decide +kernel
theorem dX6_readRun_47 : decode cX6_readRun 47 = .ok (.iinc 2 1, 3) := by decide +kernel
theorem dX6_readRun_50 : decode cX6_readRun 50 = .ok (.aload_n 0, 1) := by decide +kernel
theorem dX6_readRun_51 : decode cX6_readRun 51 = .ok (.iload_n 2, 1) := by decide +kernel
theorem dX6_readRun_52 : decode cX6_readRun 52 = .ok (.iconst 3, 1) := by decide +kernel
theorem dX6_readRun_53 : decode cX6_readRun 53 = .ok (.if_icmp .le 10, 3) := by decide +kernel
theorem dX6_readRun_56 : decode cX6_readRun 56 = .ok (.aload_n 0, 1) := by decide +kernel
theorem dX6_readRun_57 : decode cX6_readRun 57 = .ok (.getfield 82, 3) := by decide +kernel
theorem dX6_readRun_60 : decode cX6_readRun 60 = .ok (.goto 15, 3) := by decide +kernel
theorem dX6_readRun_63 : decode cX6_readRun 63 = .ok (.aload_n 0, 1) := by decide +kernel
theorem dX6_readRun_64 : decode cX6_readRun 64 = .ok (.getfield 82, 3) := by decide +kernel
theorem dX6_readRun_67 : decode cX6_readRun 67 = .ok (.bipush 10, 2) := by decide +kernel
theorem dX6_readRun_69 : decode cX6_readRun 69 = .ok (.imul, 1) := by decide +kernel
theorem dX6_readRun_70 : decode cX6_readRun 70 = .ok (.iload_n 3, 1) := by decide +kernel
theorem dX6_readRun_71 : decode cX6_readRun 71 = .ok (.bipush 48, 2) := by decide +kernel
theorem dX6_readRun_73 : decode cX6_readRun 73 = .ok (.isub, 1) := by decide +kernel
theorem dX6_readRun_74 : decode cX6_readRun 74 = .ok (.iadd, 1) := by decide +kernel
theorem dX6_readRun_75 : decode cX6_readRun 75 = .ok (.putfield 82, 3) := by decide +kernel
theorem dX6_readRun_78 : decode cX6_readRun 78 = .ok (.goto 51, 3) := by decide +kernel
theorem dX6_readRun_81 : decode cX6_readRun 81 = .ok (.iload_n 3, 1) := by decide +kernel
theorem dX6_readRun_82 : decode cX6_readRun 82 = .ok (.bipush 97, 2) := by decide +kernel
theorem dX6_readRun_84 : decode cX6_readRun 84 = .ok (.if_icmp .lt 58, 3) := by decide +kernel
theorem dX6_readRun_87 : decode cX6_readRun 87 = .ok (.iload_n 3, 1) := by decide +kernel
theorem dX6_readRun_88 : decode cX6_readRun 88 = .ok (.bipush 122, 2) := by decide +kernel
theorem dX6_readRun_90 : decode cX6_readRun 90 = .ok (.if_icmp .gt 52, 3) := by decide +kernel
theorem dX6_readRun_93 : decode cX6_readRun 93 = .ok (.iinc 1 1, 3) := by decide +kernel
theorem dX6_readRun_96 : decode cX6_readRun 96 = .ok (.aload_n 0, 1) := by decide +kernel
theorem dX6_readRun_97 : decode cX6_readRun 97 = .ok (.iload_n 1, 1) := by decide +kernel
theorem dX6_readRun_98 : decode cX6_readRun 98 = .ok (.bipush 7, 2) := by decide +kernel
theorem dX6_readRun_100 : decode cX6_readRun 100 = .ok (.if_icmp .le 10, 3) := by decide +kernel
theorem dX6_readRun_103 : decode cX6_readRun 103 = .ok (.aload_n 0, 1) := by decide +kernel
theorem dX6_readRun_104 : decode cX6_readRun 104 = .ok (.getfield 74, 3) := by decide +kernel
theorem dX6_readRun_107 : decode cX6_readRun 107 = .ok (.goto 19, 3) := by decide +kernel
theorem dX6_readRun_110 : decode cX6_readRun 110 = .ok (.aload_n 0, 1) := by decide +kernel
theorem dX6_readRun_111 : decode cX6_readRun 111 = .ok (.getfield 74, 3) := by decide +kernel
theorem dX6_readRun_114 : decode cX6_readRun 114 = .ok (.ldc2_w 31, 3) := by decide +kernel
theorem dX6_readRun_117 : decode cX6_readRun 117 = .ok (.lmul, 1) := by decide +kernel
theorem dX6_readRun_118 : decode cX6_readRun 118 = .ok (.iload_n 3, 1) := by decide +kernel
theorem dX6_readRun_119 : decode cX6_readRun 119 = .ok (.bipush 97, 2) := by decide +kernel
theorem dX6_readRun_121 : decode cX6_readRun 121 = .ok (.isub, 1) := by decide +kernel
theorem dX6_readRun_122 : decode cX6_readRun 122 = .ok (.iconst 1, 1) := by decide +kernel
theorem dX6_readRun_123 : decode cX6_readRun 123 = .ok (.iadd, 1) := by decide +kernel
theorem dX6_readRun_124 : decode cX6_readRun 124 = .ok (.i2l, 1) := by decide +kernel
theorem dX6_readRun_125 : decode cX6_readRun 125 = .ok (.ladd, 1) := by decide +kernel
theorem dX6_readRun_126 : decode cX6_readRun 126 = .ok (.putfield 74, 3) := by decide +kernel
theorem dX6_readRun_129 : decode cX6_readRun 129 = .ok (.aload_n 0, 1) := by decide +kernel
theorem dX6_readRun_130 : decode cX6_readRun 130 = .ok (.dup, 1) := by decide +kernel
theorem dX6_readRun_131 : decode cX6_readRun 131 = .ok (.getfield 40, 3) := by decide +kernel
theorem dX6_readRun_134 : decode cX6_readRun 134 = .ok (.iconst 1, 1) := by decide +kernel
theorem dX6_readRun_135 : decode cX6_readRun 135 = .ok (.iadd, 1) := by decide +kernel
theorem dX6_readRun_136 : decode cX6_readRun 136 = .ok (.putfield 40, 3) := by decide +kernel
theorem dX6_readRun_139 : decode cX6_readRun 139 = .ok (.goto (-125), 3) := by decide +kernel
theorem dX6_readRun_142 : decode cX6_readRun 142 = .ok (.iload_n 2, 1) := by decide +kernel
theorem dX6_readRun_143 : decode cX6_readRun 143 = .ok (.ifCond .ne 17, 3) := by decide +kernel
theorem dX6_readRun_146 : decode cX6_readRun 146 = .ok (.iload_n 1, 1) := by decide +kernel
theorem dX6_readRun_147 : decode cX6_readRun 147 = .ok (.bipush 7, 2) := by decide +kernel
theorem dX6_readRun_149 : decode cX6_readRun 149 = .ok (.if_icmp .gt 11, 3) := by decide +kernel
theorem dX6_readRun_152 : decode cX6_readRun 152 = .ok (.aload_n 0, 1) := by decide +kernel
theorem dX6_readRun_153 : decode cX6_readRun 153 = .ok (.iconst 1, 1) := by decide +kernel
theorem dX6_readRun_154 : decode cX6_readRun 154 = .ok (.putfield 62, 3) := by decide +kernel
theorem dX6_readRun_157 : decode cX6_readRun 157 = .ok (.goto 21, 3) := by decide +kernel
theorem dX6_readRun_160 : decode cX6_readRun 160 = .ok (.aload_n 0, 1) := by decide +kernel
theorem dX6_readRun_161 : decode cX6_readRun 161 = .ok (.iload_n 1, 1) := by decide +kernel
theorem dX6_readRun_162 : decode cX6_readRun 162 = .ok (.ifCond .ne 12, 3) := by decide +kernel
theorem dX6_readRun_165 : decode cX6_readRun 165 = .ok (.iload_n 2, 1) := by decide +kernel
theorem dX6_readRun_166 : decode cX6_readRun 166 = .ok (.iconst 3, 1) := by decide +kernel
theorem dX6_readRun_167 : decode cX6_readRun 167 = .ok (.if_icmp .gt 7, 3) := by decide +kernel
theorem dX6_readRun_170 : decode cX6_readRun 170 = .ok (.iconst 2, 1) := by decide +kernel
theorem dX6_readRun_171 : decode cX6_readRun 171 = .ok (.goto 4, 3) := by decide +kernel
theorem dX6_readRun_174 : decode cX6_readRun 174 = .ok (.iconst 5, 1) := by decide +kernel
theorem dX6_readRun_175 : decode cX6_readRun 175 = .ok (.putfield 62, 3) := by decide +kernel
theorem dX6_readRun_178 : decode cX6_readRun 178 = .ok (.return_, 1) := by decide +kernel
theorem dX6_step_0 : decode cX6_step 0 = .ok (.aload_n 0, 1) := by decide +kernel
theorem dX6_step_1 : decode cX6_step 1 = .ok (.getfield 40, 3) := by decide +kernel
theorem dX6_step_4 : decode cX6_step 4 = .ok (.aload_n 0, 1) := by decide +kernel
theorem dX6_step_5 : decode cX6_step 5 = .ok (.getfield 33, 3) := by decide +kernel
theorem dX6_step_8 : decode cX6_step 8 = .ok (.if_icmp .ge 31, 3) := by decide +kernel
theorem dX6_step_11 : decode cX6_step 11 = .ok (.aload_n 0, 1) := by decide +kernel
theorem dX6_step_12 : decode cX6_step 12 = .ok (.getfield 11, 3) := by decide +kernel
theorem dX6_step_15 : decode cX6_step 15 = .ok (.aload_n 0, 1) := by decide +kernel
theorem dX6_step_16 : decode cX6_step 16 = .ok (.getfield 40, 3) := by decide +kernel
theorem dX6_step_19 : decode cX6_step 19 = .ok (.iaload, 1) := by decide +kernel
theorem dX6_step_20 : decode cX6_step 20 = .ok (.invokestatic 52, 3) := by decide +kernel
theorem dX6_step_23 : decode cX6_step 23 = .ok (.ifCond .eq 16, 3) := by decide +kernel
theorem dX6_step_26 : decode cX6_step 26 = .ok (.aload_n 0, 1) := by decide +kernel
theorem dX6_step_27 : decode cX6_step 27 = .ok (.dup, 1) := by decide +kernel
theorem dX6_step_28 : decode cX6_step 28 = .ok (.getfield 40, 3) := by decide +kernel
theorem dX6_step_31 : decode cX6_step 31 = .ok (.iconst 1, 1) := by decide +kernel
theorem dX6_step_32 : decode cX6_step 32 = .ok (.iadd, 1) := by decide +kernel
theorem dX6_step_33 : decode cX6_step 33 = .ok (.putfield 40, 3) := by decide +kernel
theorem dX6_step_36 : decode cX6_step 36 = .ok (.goto (-36), 3) := by decide +kernel
theorem dX6_step_39 : decode cX6_step 39 = .ok (.aload_n 0, 1) := by decide +kernel
theorem dX6_step_40 : decode cX6_step 40 = .ok (.aload_n 0, 1) := by decide +kernel
theorem dX6_step_41 : decode cX6_step 41 = .ok (.getfield 40, 3) := by decide +kernel
theorem dX6_step_44 : decode cX6_step 44 = .ok (.putfield 56, 3) := by decide +kernel
theorem dX6_step_47 : decode cX6_step 47 = .ok (.aload_n 0, 1) := by decide +kernel
theorem dX6_step_48 : decode cX6_step 48 = .ok (.iconst (-1), 1) := by decide +kernel
theorem dX6_step_49 : decode cX6_step 49 = .ok (.putfield 59, 3) := by decide +kernel
theorem dX6_step_52 : decode cX6_step 52 = .ok (.aload_n 0, 1) := by decide +kernel
theorem dX6_step_53 : decode cX6_step 53 = .ok (.getfield 33, 3) := by decide +kernel
theorem dX6_step_56 : decode cX6_step 56 = .ok (.aload_n 0, 1) := by decide +kernel
theorem dX6_step_57 : decode cX6_step 57 = .ok (.getfield 37, 3) := by decide +kernel
theorem dX6_step_60 : decode cX6_step 60 = .ok (.if_icmp .le 30, 3) := by decide +kernel
theorem dX6_step_63 : decode cX6_step 63 = .ok (.aload_n 0, 1) := by decide +kernel
theorem dX6_step_64 : decode cX6_step 64 = .ok (.getfield 56, 3) := by decide +kernel
theorem dX6_step_67 : decode cX6_step 67 = .ok (.aload_n 0, 1) := by decide +kernel
theorem dX6_step_68 : decode cX6_step 68 = .ok (.getfield 37, 3) := by decide +kernel
theorem dX6_step_71 : decode cX6_step 71 = .ok (.if_icmp .lt 19, 3) := by decide +kernel
theorem dX6_step_74 : decode cX6_step 74 = .ok (.aload_n 0, 1) := by decide +kernel
theorem dX6_step_75 : decode cX6_step 75 = .ok (.aload_n 0, 1) := by decide +kernel
theorem dX6_step_76 : decode cX6_step 76 = .ok (.getfield 37, 3) := by decide +kernel
theorem dX6_step_79 : decode cX6_step 79 = .ok (.putfield 56, 3) := by decide +kernel
theorem dX6_step_82 : decode cX6_step 82 = .ok (.aload_n 0, 1) := by decide +kernel
theorem dX6_step_83 : decode cX6_step 83 = .ok (.iconst 5, 1) := by decide +kernel
theorem dX6_step_84 : decode cX6_step 84 = .ok (.putfield 62, 3) := by decide +kernel
theorem dX6_step_87 : decode cX6_step 87 = .ok (.goto 102, 3) := by decide +kernel
theorem dX6_step_90 : decode cX6_step 90 = .ok (.aload_n 0, 1) := by decide +kernel
theorem dX6_step_91 : decode cX6_step 91 = .ok (.getfield 56, 3) := by decide +kernel
theorem dX6_step_94 : decode cX6_step 94 = .ok (.aload_n 0, 1) := by decide +kernel
theorem dX6_step_95 : decode cX6_step 95 = .ok (.getfield 33, 3) := by decide +kernel
theorem dX6_step_98 : decode cX6_step 98 = .ok (.if_icmp .lt 11, 3) := by decide +kernel
theorem dX6_step_101 : decode cX6_step 101 = .ok (.aload_n 0, 1) := by decide +kernel
theorem dX6_step_102 : decode cX6_step 102 = .ok (.iconst 4, 1) := by decide +kernel
theorem dX6_step_103 : decode cX6_step 103 = .ok (.putfield 62, 3) := by decide +kernel
theorem dX6_step_106 : decode cX6_step 106 = .ok (.goto 83, 3) := by decide +kernel
theorem dX6_step_109 : decode cX6_step 109 = .ok (.aload_n 0, 1) := by decide +kernel
theorem dX6_step_110 : decode cX6_step 110 = .ok (.invokevirtual 65, 3) := by decide +kernel
theorem dX6_step_113 : decode cX6_step 113 = .ok (.aload_n 0, 1) := by decide +kernel
theorem dX6_step_114 : decode cX6_step 114 = .ok (.getfield 40, 3) := by decide +kernel
theorem dX6_step_117 : decode cX6_step 117 = .ok (.aload_n 0, 1) := by decide +kernel
theorem dX6_step_118 : decode cX6_step 118 = .ok (.getfield 56, 3) := by decide +kernel
theorem dX6_step_121 : decode cX6_step 121 = .ok (.if_icmp .ne 48, 3) := by decide +kernel
theorem dX6_step_124 : decode cX6_step 124 = .ok (.aload_n 0, 1) := by decide +kernel
theorem dX6_step_125 : decode cX6_step 125 = .ok (.aload_n 0, 1) := by decide +kernel
theorem dX6_step_126 : decode cX6_step 126 = .ok (.getfield 11, 3) := by decide +kernel
theorem dX6_step_129 : decode cX6_step 129 = .ok (.aload_n 0, 1) := by decide +kernel
theorem dX6_step_130 : decode cX6_step 130 = .ok (.getfield 56, 3) := by decide +kernel
theorem dX6_step_133 : decode cX6_step 133 = .ok (.iaload, 1) := by decide +kernel
theorem dX6_step_134 : decode cX6_step 134 = .ok (.putfield 68, 3) := by decide +kernel
theorem dX6_step_137 : decode cX6_step 137 = .ok (.aload_n 0, 1) := by decide +kernel
theorem dX6_step_138 : decode cX6_step 138 = .ok (.aload_n 0, 1) := by decide +kernel
theorem dX6_step_139 : decode cX6_step 139 = .ok (.getfield 68, 3) := by decide +kernel
theorem dX6_step_142 : decode cX6_step 142 = .ok (.invokestatic 71, 3) := by decide +kernel
theorem dX6_step_145 : decode cX6_step 145 = .ok (.ifCond .eq 7, 3) := by decide +kernel
theorem dX6_step_148 : decode cX6_step 148 = .ok (.iconst 3, 1) := by decide +kernel
theorem dX6_step_149 : decode cX6_step 149 = .ok (.goto 4, 3) := by decide +kernel
theorem dX6_step_152 : decode cX6_step 152 = .ok (.iconst 5, 1) := by decide +kernel
theorem dX6_step_153 : decode cX6_step 153 = .ok (.putfield 62, 3) := by decide +kernel
theorem dX6_step_156 : decode cX6_step 156 = .ok (.aload_n 0, 1) := by decide +kernel
theorem dX6_step_157 : decode cX6_step 157 = .ok (.dup, 1) := by decide +kernel
theorem dX6_step_158 : decode cX6_step 158 = .ok (.getfield 40, 3) := by decide +kernel
theorem dX6_step_161 : decode cX6_step 161 = .ok (.iconst 1, 1) := by decide +kernel
theorem dX6_step_162 : decode cX6_step 162 = .ok (.iadd, 1) := by decide +kernel
theorem dX6_step_163 : decode cX6_step 163 = .ok (.putfield 40, 3) := by decide +kernel
theorem dX6_step_166 : decode cX6_step 166 = .ok (.goto 23, 3) := by decide +kernel
theorem dX6_step_169 : decode cX6_step 169 = .ok (.aload_n 0, 1) := by decide +kernel
theorem dX6_step_170 : decode cX6_step 170 = .ok (.getfield 62, 3) := by decide +kernel
theorem dX6_step_173 : decode cX6_step 173 = .ok (.iconst 1, 1) := by decide +kernel
theorem dX6_step_174 : decode cX6_step 174 = .ok (.if_icmp .ne 15, 3) := by decide +kernel
theorem dX6_step_177 : decode cX6_step 177 = .ok (.aload_n 0, 1) := by decide +kernel
theorem dX6_step_178 : decode cX6_step 178 = .ok (.aload_n 0, 1) := by decide +kernel
theorem dX6_step_179 : decode cX6_step 179 = .ok (.aload_n 0, 1) := by decide +kernel
theorem dX6_step_180 : decode cX6_step 180 = .ok (.getfield 74, 3) := by decide +kernel
theorem dX6_step_183 : decode cX6_step 183 = .ok (.invokevirtual 78, 3) := by decide +kernel
theorem dX6_step_186 : decode cX6_step 186 = .ok (.putfield 59, 3) := by decide +kernel
theorem dX6_step_189 : decode cX6_step 189 = .ok (.return_, 1) := by decide +kernel
theorem dX6_passNumber_0 : decode cX6_passNumber 0 = .ok (.aload_n 0, 1) := by decide +kernel
theorem dX6_passNumber_1 : decode cX6_passNumber 1 = .ok (.iload_n 1, 1) := by decide +kernel
theorem dX6_passNumber_2 : decode cX6_passNumber 2 = .ok (.iload_n 2, 1) := by decide +kernel
theorem dX6_passNumber_3 : decode cX6_passNumber 3 = .ok (.invokevirtual 91, 3) := by decide +kernel
theorem dX6_passNumber_6 : decode cX6_passNumber 6 = .ok (.ifCond .ne 5, 3) := by decide +kernel
theorem dX6_passNumber_9 : decode cX6_passNumber 9 = .ok (.iconst 0, 1) := by decide +kernel
theorem dX6_passNumber_10 : decode cX6_passNumber 10 = .ok (.ireturn, 1) := by decide +kernel
theorem dX6_passNumber_11 : decode cX6_passNumber 11 = .ok (.iload 4, 2) := by decide +kernel
theorem dX6_passNumber_13 : decode cX6_passNumber 13 = .ok (.ifCond .lt 18, 3) := by decide +kernel
theorem dX6_passNumber_16 : decode cX6_passNumber 16 = .ok (.iload 4, 2) := by decide +kernel
theorem dX6_passNumber_18 : decode cX6_passNumber 18 = .ok (.aload_n 3, 1) := by decide +kernel
theorem dX6_passNumber_19 : decode cX6_passNumber 19 = .ok (.arraylength, 1) := by decide +kernel
theorem dX6_passNumber_20 : decode cX6_passNumber 20 = .ok (.if_icmp .ge 11, 3) := by decide +kernel
theorem dX6_passNumber_23 : decode cX6_passNumber 23 = .ok (.aload_n 3, 1) := by decide +kernel
theorem dX6_passNumber_24 : decode cX6_passNumber 24 = .ok (.iload 4, 2) := by decide +kernel
theorem dX6_passNumber_26 : decode cX6_passNumber 26 = .ok (.aload_n 0, 1) := by decide +kernel
theorem dX6_passNumber_27 : decode cX6_passNumber 27 = .ok (.getfield 82, 3) := by decide +kernel
theorem dX6_passNumber_30 : decode cX6_passNumber 30 = .ok (.iastore, 1) := by decide +kernel
theorem dX6_passNumber_31 : decode cX6_passNumber 31 = .ok (.aload_n 0, 1) := by decide +kernel
theorem dX6_passNumber_32 : decode cX6_passNumber 32 = .ok (.invokevirtual 49, 3) := by decide +kernel
theorem dX6_passNumber_35 : decode cX6_passNumber 35 = .ok (.iconst 1, 1) := by decide +kernel
theorem dX6_passNumber_36 : decode cX6_passNumber 36 = .ok (.ireturn, 1) := by decide +kernel
theorem dX6_open_0 : decode cX6_open 0 = .ok (.aload_n 0, 1) := by decide +kernel
theorem dX6_open_1 : decode cX6_open 1 = .ok (.iload_n 1, 1) := by decide +kernel
theorem dX6_open_2 : decode cX6_open 2 = .ok (.putfield 37, 3) := by decide +kernel
theorem dX6_open_5 : decode cX6_open 5 = .ok (.aload_n 0, 1) := by decide +kernel
theorem dX6_open_6 : decode cX6_open 6 = .ok (.iconst 0, 1) := by decide +kernel
theorem dX6_open_7 : decode cX6_open 7 = .ok (.putfield 40, 3) := by decide +kernel
theorem dX6_open_10 : decode cX6_open 10 = .ok (.aload_n 0, 1) := by decide +kernel
theorem dX6_open_11 : decode cX6_open 11 = .ok (.iconst 0, 1) := by decide +kernel
theorem dX6_open_12 : decode cX6_open 12 = .ok (.putfield 43, 3) := by decide +kernel
theorem dX6_open_15 : decode cX6_open 15 = .ok (.aload_n 0, 1) := by decide +kernel
theorem dX6_open_16 : decode cX6_open 16 = .ok (.iconst 0, 1) := by decide +kernel
theorem dX6_open_17 : decode cX6_open 17 = .ok (.putfield 46, 3) := by decide +kernel
theorem dX6_open_20 : decode cX6_open 20 = .ok (.aload_n 0, 1) := by decide +kernel
theorem dX6_open_21 : decode cX6_open 21 = .ok (.invokevirtual 49, 3) := by decide +kernel
theorem dX6_open_24 : decode cX6_open 24 = .ok (.return_, 1) := by decide +kernel
theorem dX6_atSign_0 : decode cX6_atSign 0 = .ok (.aload_n 0, 1) := by decide +kernel
theorem dX6_atSign_1 : decode cX6_atSign 1 = .ok (.getfield 62, 3) := by decide +kernel
theorem dX6_atSign_4 : decode cX6_atSign 4 = .ok (.iconst 3, 1) := by decide +kernel
theorem dX6_atSign_5 : decode cX6_atSign 5 = .ok (.if_icmp .ne 15, 3) := by decide +kernel
theorem dX6_atSign_8 : decode cX6_atSign 8 = .ok (.aload_n 0, 1) := by decide +kernel
theorem dX6_atSign_9 : decode cX6_atSign 9 = .ok (.getfield 68, 3) := by decide +kernel
theorem dX6_atSign_12 : decode cX6_atSign 12 = .ok (.iload_n 1, 1) := by decide +kernel
theorem dX6_atSign_13 : decode cX6_atSign 13 = .ok (.if_icmp .ne 7, 3) := by decide +kernel
theorem dX6_atSign_16 : decode cX6_atSign 16 = .ok (.iconst 1, 1) := by decide +kernel
theorem dX6_atSign_17 : decode cX6_atSign 17 = .ok (.goto 4, 3) := by decide +kernel
theorem dX6_atSign_20 : decode cX6_atSign 20 = .ok (.iconst 0, 1) := by decide +kernel
theorem dX6_atSign_21 : decode cX6_atSign 21 = .ok (.ireturn, 1) := by decide +kernel
theorem dX6_passSign_0 : decode cX6_passSign 0 = .ok (.aload_n 0, 1) := by decide +kernel
theorem dX6_passSign_1 : decode cX6_passSign 1 = .ok (.iload_n 1, 1) := by decide +kernel
theorem dX6_passSign_2 : decode cX6_passSign 2 = .ok (.invokevirtual 85, 3) := by decide +kernel
theorem dX6_passSign_5 : decode cX6_passSign 5 = .ok (.ifCond .ne 9, 3) := by decide +kernel
theorem dX6_passSign_8 : decode cX6_passSign 8 = .ok (.aload_n 0, 1) := by decide +kernel
theorem dX6_passSign_9 : decode cX6_passSign 9 = .ok (.iconst 1, 1) := by decide +kernel
theorem dX6_passSign_10 : decode cX6_passSign 10 = .ok (.invokevirtual 88, 3) := by decide +kernel
theorem dX6_passSign_13 : decode cX6_passSign 13 = .ok (.ireturn, 1) := by decide +kernel
theorem dX6_passSign_14 : decode cX6_passSign 14 = .ok (.aload_n 0, 1) := by decide +kernel
theorem dX6_passSign_15 : decode cX6_passSign 15 = .ok (.invokevirtual 49, 3) := by decide +kernel
theorem dX6_passSign_18 : decode cX6_passSign 18 = .ok (.iconst 1, 1) := by decide +kernel
theorem dX6_passSign_19 : decode cX6_passSign 19 = .ok (.ireturn, 1) := by decide +kernel
theorem dX10_isPlan_0 : decode cX10_isPlan 0 = .ok (.iload_n 0, 1) := by decide +kernel
theorem dX10_isPlan_1 : decode cX10_isPlan 1 = .ok (.ifCond .lt 23, 3) := by decide +kernel
theorem dX10_isPlan_4 : decode cX10_isPlan 4 = .ok (.iload_n 0, 1) := by decide +kernel
theorem dX10_isPlan_5 : decode cX10_isPlan 5 = .ok (.bipush 18, 2) := by decide +kernel
theorem dX10_isPlan_7 : decode cX10_isPlan 7 = .ok (.if_icmp .gt 17, 3) := by decide +kernel
theorem dX10_isPlan_10 : decode cX10_isPlan 10 = .ok (.iload_n 1, 1) := by decide +kernel
theorem dX10_isPlan_11 : decode cX10_isPlan 11 = .ok (.ifCond .lt 13, 3) := by decide +kernel
theorem dX10_isPlan_14 : decode cX10_isPlan 14 = .ok (.iload_n 1, 1) := by decide +kernel
theorem dX10_isPlan_15 : decode cX10_isPlan 15 = .ok (.bipush 99, 2) := by decide +kernel
theorem dX10_isPlan_17 : decode cX10_isPlan 17 = .ok (.if_icmp .gt 7, 3) := by decide +kernel
theorem dX10_isPlan_20 : decode cX10_isPlan 20 = .ok (.iconst 1, 1) := by decide +kernel
theorem dX10_isPlan_21 : decode cX10_isPlan 21 = .ok (.goto 4, 3) := by decide +kernel
theorem dX10_isPlan_24 : decode cX10_isPlan 24 = .ok (.iconst 0, 1) := by decide +kernel
theorem dX10_isPlan_25 : decode cX10_isPlan 25 = .ok (.ireturn, 1) := by decide +kernel
theorem dX6_hasRoom_0 : decode cX6_hasRoom 0 = .ok (.aload_n 0, 1) := by decide +kernel
theorem dX6_hasRoom_1 : decode cX6_hasRoom 1 = .ok (.getfield 33, 3) := by decide +kernel
theorem dX6_hasRoom_4 : decode cX6_hasRoom 4 = .ok (.sipush 920, 3) := by decide +kernel
theorem dX6_hasRoom_7 : decode cX6_hasRoom 7 = .ok (.if_icmp .gt 7, 3) := by decide +kernel
theorem dX6_hasRoom_10 : decode cX6_hasRoom 10 = .ok (.iconst 1, 1) := by decide +kernel
theorem dX6_hasRoom_11 : decode cX6_hasRoom 11 = .ok (.goto 4, 3) := by decide +kernel
theorem dX6_hasRoom_14 : decode cX6_hasRoom 14 = .ok (.iconst 0, 1) := by decide +kernel
theorem dX6_hasRoom_15 : decode cX6_hasRoom 15 = .ok (.ireturn, 1) := by decide +kernel
theorem dX6_addNumber_0 : decode cX6_addNumber 0 = .ok (.bipush 24, 2) := by decide +kernel
theorem dX6_addNumber_2 : decode cX6_addNumber 2 = .ok (.istore_n 2, 1) := by decide +kernel
theorem dX6_addNumber_3 : decode cX6_addNumber 3 = .ok (.iload_n 2, 1) := by decide +kernel
theorem dX6_addNumber_4 : decode cX6_addNumber 4 = .ok (.ifCond .lt 45, 3) := by decide +kernel
theorem dX6_addNumber_7 : decode cX6_addNumber 7 = .ok (.aload_n 0, 1) := by decide +kernel
theorem dX6_addNumber_8 : decode cX6_addNumber 8 = .ok (.getfield 33, 3) := by decide +kernel
theorem dX6_addNumber_11 : decode cX6_addNumber 11 = .ok (.sipush 940, 3) := by decide +kernel
theorem dX6_addNumber_14 : decode cX6_addNumber 14 = .ok (.if_icmp .ge 35, 3) := by decide +kernel
theorem dX6_addNumber_17 : decode cX6_addNumber 17 = .ok (.aload_n 0, 1) := by decide +kernel
theorem dX6_addNumber_18 : decode cX6_addNumber 18 = .ok (.getfield 11, 3) := by decide +kernel
theorem dX6_addNumber_21 : decode cX6_addNumber 21 = .ok (.aload_n 0, 1) := by decide +kernel
theorem dX6_addNumber_22 : decode cX6_addNumber 22 = .ok (.getfield 33, 3) := by decide +kernel
theorem dX6_addNumber_25 : decode cX6_addNumber 25 = .ok (.iload_n 1, 1) := by decide +kernel
theorem dX6_addNumber_26 : decode cX6_addNumber 26 = .ok (.iload_n 2, 1) := by decide +kernel
theorem dX6_addNumber_27 : decode cX6_addNumber 27 = .ok (.iushr, 1) := by decide +kernel
theorem dX6_addNumber_28 : decode cX6_addNumber 28 = .ok (.sipush 255, 3) := by decide +kernel
theorem dX6_addNumber_31 : decode cX6_addNumber 31 = .ok (.iand, 1) := by decide +kernel
theorem dX6_addNumber_32 : decode cX6_addNumber 32 = .ok (.iastore, 1) := by decide +kernel
theorem dX6_addNumber_33 : decode cX6_addNumber 33 = .ok (.aload_n 0, 1) := by decide +kernel
theorem dX6_addNumber_34 : decode cX6_addNumber 34 = .ok (.dup, 1) := by decide +kernel
theorem dX6_addNumber_35 : decode cX6_addNumber 35 = .ok (.getfield 33, 3) := by decide +kernel
theorem dX6_addNumber_38 : decode cX6_addNumber 38 = .ok (.iconst 1, 1) := by decide +kernel
theorem dX6_addNumber_39 : decode cX6_addNumber 39 = .ok (.iadd, 1) := by decide +kernel
theorem dX6_addNumber_40 : decode cX6_addNumber 40 = .ok (.putfield 33, 3) := by decide +kernel
theorem dX6_addNumber_43 : decode cX6_addNumber 43 = .ok (.iinc 2 (-8), 3) := by decide +kernel
theorem dX6_addNumber_46 : decode cX6_addNumber 46 = .ok (.goto (-43), 3) := by decide +kernel
theorem dX6_addNumber_49 : decode cX6_addNumber 49 = .ok (.return_, 1) := by decide +kernel
theorem dX7_overDays_0 : decode cX7_overDays 0 = .ok (.aload_n 0, 1) := by decide +kernel
theorem dX7_overDays_1 : decode cX7_overDays 1 = .ok (.iconst 0, 1) := by decide +kernel
theorem dX7_overDays_2 : decode cX7_overDays 2 = .ok (.iaload, 1) := by decide +kernel
theorem dX7_overDays_3 : decode cX7_overDays 3 = .ok (.iload_n 1, 1) := by decide +kernel
theorem dX7_overDays_4 : decode cX7_overDays 4 = .ok (.imul, 1) := by decide +kernel
theorem dX7_overDays_5 : decode cX7_overDays 5 = .ok (.aload_n 0, 1) := by decide +kernel
theorem dX7_overDays_6 : decode cX7_overDays 6 = .ok (.iconst 1, 1) := by decide +kernel
theorem dX7_overDays_7 : decode cX7_overDays 7 = .ok (.iaload, 1) := by decide +kernel
theorem dX7_overDays_8 : decode cX7_overDays 8 = .ok (.iload_n 2, 1) := by decide +kernel
theorem dX7_overDays_9 : decode cX7_overDays 9 = .ok (.imul, 1) := by decide +kernel
theorem dX7_overDays_10 : decode cX7_overDays 10 = .ok (.iadd, 1) := by decide +kernel
theorem dX7_overDays_11 : decode cX7_overDays 11 = .ok (.aload_n 0, 1) := by decide +kernel
theorem dX7_overDays_12 : decode cX7_overDays 12 = .ok (.iconst 2, 1) := by decide +kernel
theorem dX7_overDays_13 : decode cX7_overDays 13 = .ok (.iaload, 1) := by decide +kernel
theorem dX7_overDays_14 : decode cX7_overDays 14 = .ok (.iload_n 3, 1) := by decide +kernel
theorem dX7_overDays_15 : decode cX7_overDays 15 = .ok (.imul, 1) := by decide +kernel
theorem dX7_overDays_16 : decode cX7_overDays 16 = .ok (.iadd, 1) := by decide +kernel
theorem dX7_overDays_17 : decode cX7_overDays 17 = .ok (.ireturn, 1) := by decide +kernel
theorem dX7_spreadBoxes_0 : decode cX7_spreadBoxes 0 = .ok (.aload_n 1, 1) := by decide +kernel
theorem dX7_spreadBoxes_1 : decode cX7_spreadBoxes 1 = .ok (.getfield 27, 3) := by decide +kernel
theorem dX7_spreadBoxes_4 : decode cX7_spreadBoxes 4 = .ok (.iconst 3, 1) := by decide +kernel
theorem dX7_spreadBoxes_5 : decode cX7_spreadBoxes 5 = .ok (.isub, 1) := by decide +kernel
theorem dX7_spreadBoxes_6 : decode cX7_spreadBoxes 6 = .ok (.istore_n 3, 1) := by decide +kernel
theorem dX7_spreadBoxes_7 : decode cX7_spreadBoxes 7 = .ok (.iload_n 2, 1) := by decide +kernel
theorem dX7_spreadBoxes_8 : decode cX7_spreadBoxes 8 = .ok (.ifCond .lt 21, 3) := by decide +kernel
theorem dX7_spreadBoxes_11 : decode cX7_spreadBoxes 11 = .ok (.iload_n 2, 1) := by decide +kernel
theorem dX7_spreadBoxes_12 : decode cX7_spreadBoxes 12 = .ok (.sipush 9999, 3) := by decide +kernel
theorem dX7_spreadBoxes_15 : decode cX7_spreadBoxes 15 = .ok (.if_icmp .gt 14, 3) := by decide +kernel
theorem dX7_spreadBoxes_18 : decode cX7_spreadBoxes 18 = .ok (.iload_n 3, 1) := by decide +kernel
theorem dX7_spreadBoxes_19 : decode cX7_spreadBoxes 19 = .ok (.iconst 1, 1) := by decide +kernel
theorem dX7_spreadBoxes_20 : decode cX7_spreadBoxes 20 = .ok (.if_icmp .lt 9, 3) := by decide +kernel
theorem dX7_spreadBoxes_23 : decode cX7_spreadBoxes 23 = .ok (.iload_n 3, 1) := by decide +kernel
theorem dX7_spreadBoxes_24 : decode cX7_spreadBoxes 24 = .ok (.bipush 9, 2) := by decide +kernel
theorem dX7_spreadBoxes_26 : decode cX7_spreadBoxes 26 = .ok (.if_icmp .le 5, 3) := by decide +kernel
theorem dX7_spreadBoxes_29 : decode cX7_spreadBoxes 29 = .ok (.iconst (-1), 1) := by decide +kernel
theorem dX7_spreadBoxes_30 : decode cX7_spreadBoxes 30 = .ok (.ireturn, 1) := by decide +kernel
theorem dX7_spreadBoxes_31 : decode cX7_spreadBoxes 31 = .ok (.iconst 0, 1) := by decide +kernel
theorem dX7_spreadBoxes_32 : decode cX7_spreadBoxes 32 = .ok (.istore 4, 2) := by decide +kernel
theorem dX7_spreadBoxes_34 : decode cX7_spreadBoxes 34 = .ok (.iload 4, 2) := by decide +kernel
theorem dX7_spreadBoxes_36 : decode cX7_spreadBoxes 36 = .ok (.iload_n 3, 1) := by decide +kernel
theorem dX7_spreadBoxes_37 : decode cX7_spreadBoxes 37 = .ok (.if_icmp .ge 35, 3) := by decide +kernel
theorem dX7_spreadBoxes_40 : decode cX7_spreadBoxes 40 = .ok (.aload_n 0, 1) := by decide +kernel
theorem dX7_spreadBoxes_41 : decode cX7_spreadBoxes 41 = .ok (.getfield 15, 3) := by decide +kernel
theorem dX7_spreadBoxes_44 : decode cX7_spreadBoxes 44 = .ok (.iload 4, 2) := by decide +kernel
theorem dX7_spreadBoxes_46 : decode cX7_spreadBoxes 46 = .ok (.iconst 1, 1) := by decide +kernel
theorem dX7_spreadBoxes_47 : decode cX7_spreadBoxes 47 = .ok (.iadd, 1) := by decide +kernel
theorem dX7_spreadBoxes_48 : decode cX7_spreadBoxes 48 = .ok (.aload_n 0, 1) := by decide +kernel
theorem dX7_spreadBoxes_49 : decode cX7_spreadBoxes 49 = .ok (.getfield 15, 3) := by decide +kernel
theorem dX7_spreadBoxes_52 : decode cX7_spreadBoxes 52 = .ok (.iload 4, 2) := by decide +kernel
theorem dX7_spreadBoxes_54 : decode cX7_spreadBoxes 54 = .ok (.iaload, 1) := by decide +kernel
theorem dX7_spreadBoxes_55 : decode cX7_spreadBoxes 55 = .ok (.aload_n 1, 1) := by decide +kernel
theorem dX7_spreadBoxes_56 : decode cX7_spreadBoxes 56 = .ok (.getfield 33, 3) := by decide +kernel
theorem dX7_spreadBoxes_59 : decode cX7_spreadBoxes 59 = .ok (.iconst 3, 1) := by decide +kernel
theorem dX7_spreadBoxes_60 : decode cX7_spreadBoxes 60 = .ok (.iload 4, 2) := by decide +kernel
theorem dX7_spreadBoxes_62 : decode cX7_spreadBoxes 62 = .ok (.iadd, 1) := by decide +kernel
theorem dX7_spreadBoxes_63 : decode cX7_spreadBoxes 63 = .ok (.iaload, 1) := by decide +kernel
theorem dX7_spreadBoxes_64 : decode cX7_spreadBoxes 64 = .ok (.iadd, 1) := by decide +kernel
theorem dX7_spreadBoxes_65 : decode cX7_spreadBoxes 65 = .ok (.iastore, 1) := by decide +kernel
theorem dX7_spreadBoxes_66 : decode cX7_spreadBoxes 66 = .ok (.iinc 4 1, 3) := by decide +kernel
theorem dX7_spreadBoxes_69 : decode cX7_spreadBoxes 69 = .ok (.goto (-35), 3) := by decide +kernel
theorem dX7_spreadBoxes_72 : decode cX7_spreadBoxes 72 = .ok (.iconst (-1), 1) := by decide +kernel
theorem dX7_spreadBoxes_73 : decode cX7_spreadBoxes 73 = .ok (.istore 4, 2) := by decide +kernel
theorem dX7_spreadBoxes_75 : decode cX7_spreadBoxes 75 = .ok (.iconst 0, 1) := by decide +kernel
theorem dX7_spreadBoxes_76 : decode cX7_spreadBoxes 76 = .ok (.istore 5, 2) := by decide +kernel
theorem dX7_spreadBoxes_78 : decode cX7_spreadBoxes 78 = .ok (.iload 5, 2) := by decide +kernel
theorem dX7_spreadBoxes_80 : decode cX7_spreadBoxes 80 = .ok (.iload_n 3, 1) := by decide +kernel
theorem dX7_spreadBoxes_81 : decode cX7_spreadBoxes 81 = .ok (.if_icmp .gt 125, 3) := by decide +kernel
theorem dX7_spreadBoxes_84 : decode cX7_spreadBoxes 84 = .ok (.iconst 0, 1) := by decide +kernel
theorem dX7_spreadBoxes_85 : decode cX7_spreadBoxes 85 = .ok (.istore 6, 2) := by decide +kernel
theorem dX7_spreadBoxes_87 : decode cX7_spreadBoxes 87 = .ok (.iload 6, 2) := by decide +kernel
theorem dX7_spreadBoxes_89 : decode cX7_spreadBoxes 89 = .ok (.iload_n 3, 1) := by decide +kernel
theorem dX7_spreadBoxes_90 : decode cX7_spreadBoxes 90 = .ok (.if_icmp .gt 110, 3) := by decide +kernel
theorem dX7_spreadBoxes_93 : decode cX7_spreadBoxes 93 = .ok (.iconst 0, 1) := by decide +kernel
theorem dX7_spreadBoxes_94 : decode cX7_spreadBoxes 94 = .ok (.istore 7, 2) := by decide +kernel
theorem dX7_spreadBoxes_96 : decode cX7_spreadBoxes 96 = .ok (.iload 7, 2) := by decide +kernel
theorem dX7_spreadBoxes_98 : decode cX7_spreadBoxes 98 = .ok (.iload_n 3, 1) := by decide +kernel
theorem dX7_spreadBoxes_99 : decode cX7_spreadBoxes 99 = .ok (.if_icmp .gt 95, 3) := by decide +kernel
theorem dX7_spreadBoxes_102 : decode cX7_spreadBoxes 102 = .ok (.aload_n 1, 1) := by decide +kernel
theorem dX7_spreadBoxes_103 : decode cX7_spreadBoxes 103 = .ok (.getfield 33, 3) := by decide +kernel
theorem dX7_spreadBoxes_106 : decode cX7_spreadBoxes 106 = .ok (.iload 5, 2) := by decide +kernel
theorem dX7_spreadBoxes_108 : decode cX7_spreadBoxes 108 = .ok (.iload 6, 2) := by decide +kernel
theorem dX7_spreadBoxes_110 : decode cX7_spreadBoxes 110 = .ok (.iload 7, 2) := by decide +kernel
theorem dX7_spreadBoxes_112 : decode cX7_spreadBoxes 112 = .ok (.invokestatic 36, 3) := by decide +kernel
theorem dX7_spreadBoxes_115 : decode cX7_spreadBoxes 115 = .ok (.istore 8, 2) := by decide +kernel
theorem dX7_spreadBoxes_117 : decode cX7_spreadBoxes 117 = .ok (.aload_n 1, 1) := by decide +kernel
theorem dX7_spreadBoxes_118 : decode cX7_spreadBoxes 118 = .ok (.getfield 33, 3) := by decide +kernel
theorem dX7_spreadBoxes_121 : decode cX7_spreadBoxes 121 = .ok (.aload_n 0, 1) := by decide +kernel
theorem dX7_spreadBoxes_122 : decode cX7_spreadBoxes 122 = .ok (.getfield 15, 3) := by decide +kernel
theorem dX7_spreadBoxes_125 : decode cX7_spreadBoxes 125 = .ok (.iload 5, 2) := by decide +kernel
theorem dX7_spreadBoxes_127 : decode cX7_spreadBoxes 127 = .ok (.iaload, 1) := by decide +kernel
theorem dX7_spreadBoxes_128 : decode cX7_spreadBoxes 128 = .ok (.aload_n 0, 1) := by decide +kernel
theorem dX7_spreadBoxes_129 : decode cX7_spreadBoxes 129 = .ok (.getfield 15, 3) := by decide +kernel
theorem dX7_spreadBoxes_132 : decode cX7_spreadBoxes 132 = .ok (.iload 6, 2) := by decide +kernel
theorem dX7_spreadBoxes_134 : decode cX7_spreadBoxes 134 = .ok (.iaload, 1) := by decide +kernel
theorem dX7_spreadBoxes_135 : decode cX7_spreadBoxes 135 = .ok (.aload_n 0, 1) := by decide +kernel
theorem dX7_spreadBoxes_136 : decode cX7_spreadBoxes 136 = .ok (.getfield 15, 3) := by decide +kernel
theorem dX7_spreadBoxes_139 : decode cX7_spreadBoxes 139 = .ok (.iload 7, 2) := by decide +kernel
theorem dX7_spreadBoxes_141 : decode cX7_spreadBoxes 141 = .ok (.iaload, 1) := by decide +kernel
theorem dX7_spreadBoxes_142 : decode cX7_spreadBoxes 142 = .ok (.invokestatic 36, 3) := by decide +kernel
theorem dX7_spreadBoxes_145 : decode cX7_spreadBoxes 145 = .ok (.istore 9, 2) := by decide +kernel
theorem dX7_spreadBoxes_147 : decode cX7_spreadBoxes 147 = .ok (.iload 8, 2) := by decide +kernel
theorem dX7_spreadBoxes_149 : decode cX7_spreadBoxes 149 = .ok (.iload_n 2, 1) := by decide +kernel
theorem dX7_spreadBoxes_150 : decode cX7_spreadBoxes 150 = .ok (.if_icmp .gt 38, 3) := by decide +kernel
theorem dX7_spreadBoxes_153 : decode cX7_spreadBoxes 153 = .ok (.iload 9, 2) := by decide +kernel
theorem dX7_spreadBoxes_155 : decode cX7_spreadBoxes 155 = .ok (.iload 4, 2) := by decide +kernel
theorem dX7_spreadBoxes_157 : decode cX7_spreadBoxes 157 = .ok (.if_icmp .le 31, 3) := by decide +kernel
theorem dX7_spreadBoxes_160 : decode cX7_spreadBoxes 160 = .ok (.iload 9, 2) := by decide +kernel
theorem dX7_spreadBoxes_162 : decode cX7_spreadBoxes 162 = .ok (.istore 4, 2) := by decide +kernel
theorem dX7_spreadBoxes_164 : decode cX7_spreadBoxes 164 = .ok (.aload_n 0, 1) := by decide +kernel
theorem dX7_spreadBoxes_165 : decode cX7_spreadBoxes 165 = .ok (.getfield 9, 3) := by decide +kernel
theorem dX7_spreadBoxes_168 : decode cX7_spreadBoxes 168 = .ok (.iconst 0, 1) := by decide +kernel
theorem dX7_spreadBoxes_169 : decode cX7_spreadBoxes 169 = .ok (.iload 5, 2) := by decide +kernel
theorem dX7_spreadBoxes_171 : decode cX7_spreadBoxes 171 = .ok (.iastore, 1) := by decide +kernel
theorem dX7_spreadBoxes_172 : decode cX7_spreadBoxes 172 = .ok (.aload_n 0, 1) := by decide +kernel
theorem dX7_spreadBoxes_173 : decode cX7_spreadBoxes 173 = .ok (.getfield 9, 3) := by decide +kernel
theorem dX7_spreadBoxes_176 : decode cX7_spreadBoxes 176 = .ok (.iconst 1, 1) := by decide +kernel
theorem dX7_spreadBoxes_177 : decode cX7_spreadBoxes 177 = .ok (.iload 6, 2) := by decide +kernel
theorem dX7_spreadBoxes_179 : decode cX7_spreadBoxes 179 = .ok (.iastore, 1) := by decide +kernel
theorem dX7_spreadBoxes_180 : decode cX7_spreadBoxes 180 = .ok (.aload_n 0, 1) := by decide +kernel
theorem dX7_spreadBoxes_181 : decode cX7_spreadBoxes 181 = .ok (.getfield 9, 3) := by decide +kernel
theorem dX7_spreadBoxes_184 : decode cX7_spreadBoxes 184 = .ok (.iconst 2, 1) := by decide +kernel
theorem dX7_spreadBoxes_185 : decode cX7_spreadBoxes 185 = .ok (.iload 7, 2) := by decide +kernel
theorem dX7_spreadBoxes_187 : decode cX7_spreadBoxes 187 = .ok (.iastore, 1) := by decide +kernel
theorem dX7_spreadBoxes_188 : decode cX7_spreadBoxes 188 = .ok (.iinc 7 1, 3) := by decide +kernel
theorem dX7_spreadBoxes_191 : decode cX7_spreadBoxes 191 = .ok (.goto (-95), 3) := by decide +kernel
theorem dX7_spreadBoxes_194 : decode cX7_spreadBoxes 194 = .ok (.iinc 6 1, 3) := by decide +kernel
theorem dX7_spreadBoxes_197 : decode cX7_spreadBoxes 197 = .ok (.goto (-110), 3) := by decide +kernel
theorem dX7_spreadBoxes_200 : decode cX7_spreadBoxes 200 = .ok (.iinc 5 1, 3) := by decide +kernel
theorem dX7_spreadBoxes_203 : decode cX7_spreadBoxes 203 = .ok (.goto (-125), 3) := by decide +kernel
theorem dX7_spreadBoxes_206 : decode cX7_spreadBoxes 206 = .ok (.iload 4, 2) := by decide +kernel
theorem dX7_spreadBoxes_208 : decode cX7_spreadBoxes 208 = .ok (.ireturn, 1) := by decide +kernel
theorem dX7_areRows_0 : decode cX7_areRows 0 = .ok (.aload_n 0, 1) := by decide +kernel
theorem dX7_areRows_1 : decode cX7_areRows 1 = .ok (.getfield 27, 3) := by decide +kernel
theorem dX7_areRows_4 : decode cX7_areRows 4 = .ok (.iconst 5, 1) := by decide +kernel
theorem dX7_areRows_5 : decode cX7_areRows 5 = .ok (.if_icmp .lt 21, 3) := by decide +kernel
theorem dX7_areRows_8 : decode cX7_areRows 8 = .ok (.aload_n 0, 1) := by decide +kernel
theorem dX7_areRows_9 : decode cX7_areRows 9 = .ok (.getfield 27, 3) := by decide +kernel
theorem dX7_areRows_12 : decode cX7_areRows 12 = .ok (.bipush 60, 2) := by decide +kernel
theorem dX7_areRows_14 : decode cX7_areRows 14 = .ok (.if_icmp .gt 12, 3) := by decide +kernel
theorem dX7_areRows_17 : decode cX7_areRows 17 = .ok (.aload_n 0, 1) := by decide +kernel
theorem dX7_areRows_18 : decode cX7_areRows 18 = .ok (.getfield 27, 3) := by decide +kernel
theorem dX7_areRows_21 : decode cX7_areRows 21 = .ok (.iconst 5, 1) := by decide +kernel
theorem dX7_areRows_22 : decode cX7_areRows 22 = .ok (.irem, 1) := by decide +kernel
theorem dX7_areRows_23 : decode cX7_areRows 23 = .ok (.ifCond .eq 5, 3) := by decide +kernel
theorem dX7_areRows_26 : decode cX7_areRows 26 = .ok (.iconst 0, 1) := by decide +kernel
theorem dX7_areRows_27 : decode cX7_areRows 27 = .ok (.ireturn, 1) := by decide +kernel
theorem dX7_areRows_28 : decode cX7_areRows 28 = .ok (.aload_n 0, 1) := by decide +kernel
theorem dX7_areRows_29 : decode cX7_areRows 29 = .ok (.getfield 33, 3) := by decide +kernel
theorem dX7_areRows_32 : decode cX7_areRows 32 = .ok (.astore_n 1, 1) := by decide +kernel
theorem dX7_areRows_33 : decode cX7_areRows 33 = .ok (.iconst 0, 1) := by decide +kernel
theorem dX7_areRows_34 : decode cX7_areRows 34 = .ok (.istore_n 2, 1) := by decide +kernel
theorem dX7_areRows_35 : decode cX7_areRows 35 = .ok (.iload_n 2, 1) := by decide +kernel
theorem dX7_areRows_36 : decode cX7_areRows 36 = .ok (.aload_n 0, 1) := by decide +kernel
theorem dX7_areRows_37 : decode cX7_areRows 37 = .ok (.getfield 27, 3) := by decide +kernel
theorem dX7_areRows_40 : decode cX7_areRows 40 = .ok (.if_icmp .ge 47, 3) := by decide +kernel
theorem dX7_areRows_43 : decode cX7_areRows 43 = .ok (.aload_n 1, 1) := by decide +kernel
theorem dX7_areRows_44 : decode cX7_areRows 44 = .ok (.iload_n 2, 1) := by decide +kernel
theorem dX7_areRows_45 : decode cX7_areRows 45 = .ok (.iaload, 1) := by decide +kernel
theorem dX7_areRows_46 : decode cX7_areRows 46 = .ok (.bipush 20, 2) := by decide +kernel
theorem dX7_areRows_48 : decode cX7_areRows 48 = .ok (.if_icmp .gt 31, 3) := by decide +kernel
theorem dX7_areRows_51 : decode cX7_areRows 51 = .ok (.aload_n 1, 1) := by decide +kernel
theorem dX7_areRows_52 : decode cX7_areRows 52 = .ok (.iload_n 2, 1) := by decide +kernel
theorem dX7_areRows_53 : decode cX7_areRows 53 = .ok (.iconst 1, 1) := by decide +kernel
theorem dX7_areRows_54 : decode cX7_areRows 54 = .ok (.iadd, 1) := by decide +kernel
theorem dX7_areRows_55 : decode cX7_areRows 55 = .ok (.iaload, 1) := by decide +kernel
theorem dX7_areRows_56 : decode cX7_areRows 56 = .ok (.iconst 1, 1) := by decide +kernel
theorem dX7_areRows_57 : decode cX7_areRows 57 = .ok (.if_icmp .gt 22, 3) := by decide +kernel
theorem dX7_areRows_60 : decode cX7_areRows 60 = .ok (.aload_n 1, 1) := by decide +kernel
theorem dX7_areRows_61 : decode cX7_areRows 61 = .ok (.iload_n 2, 1) := by decide +kernel
theorem dX7_areRows_62 : decode cX7_areRows 62 = .ok (.iconst 2, 1) := by decide +kernel
theorem dX7_areRows_63 : decode cX7_areRows 63 = .ok (.iadd, 1) := by decide +kernel
theorem dX7_areRows_64 : decode cX7_areRows 64 = .ok (.iaload, 1) := by decide +kernel
theorem dX7_areRows_65 : decode cX7_areRows 65 = .ok (.bipush 8, 2) := by decide +kernel
theorem dX7_areRows_67 : decode cX7_areRows 67 = .ok (.if_icmp .gt 12, 3) := by decide +kernel
theorem dX7_areRows_70 : decode cX7_areRows 70 = .ok (.aload_n 1, 1) := by decide +kernel
theorem dX7_areRows_71 : decode cX7_areRows 71 = .ok (.iload_n 2, 1) := by decide +kernel
theorem dX7_areRows_72 : decode cX7_areRows 72 = .ok (.iconst 3, 1) := by decide +kernel
theorem dX7_areRows_73 : decode cX7_areRows 73 = .ok (.iadd, 1) := by decide +kernel
theorem dX7_areRows_74 : decode cX7_areRows 74 = .ok (.iaload, 1) := by decide +kernel
theorem dX7_areRows_75 : decode cX7_areRows 75 = .ok (.iconst 1, 1) := by decide +kernel
theorem dX7_areRows_76 : decode cX7_areRows 76 = .ok (.if_icmp .le 5, 3) := by decide +kernel
theorem dX7_areRows_79 : decode cX7_areRows 79 = .ok (.iconst 0, 1) := by decide +kernel
theorem dX7_areRows_80 : decode cX7_areRows 80 = .ok (.ireturn, 1) := by decide +kernel
theorem dX7_areRows_81 : decode cX7_areRows 81 = .ok (.iinc 2 5, 3) := by decide +kernel
theorem dX7_areRows_84 : decode cX7_areRows 84 = .ok (.goto (-49), 3) := by decide +kernel
theorem dX7_areRows_87 : decode cX7_areRows 87 = .ok (.iconst 1, 1) := by decide +kernel
theorem dX7_areRows_88 : decode cX7_areRows 88 = .ok (.ireturn, 1) := by decide +kernel
theorem dX7_tellsRows_0 : decode cX7_tellsRows 0 = .ok (.iload_n 0, 1) := by decide +kernel
theorem dX7_tellsRows_1 : decode cX7_tellsRows 1 = .ok (.sipush 1000, 3) := by decide +kernel
theorem dX7_tellsRows_4 : decode cX7_tellsRows 4 = .ok (.idiv, 1) := by decide +kernel
theorem dX7_tellsRows_5 : decode cX7_tellsRows 5 = .ok (.istore_n 2, 1) := by decide +kernel
theorem dX7_tellsRows_6 : decode cX7_tellsRows 6 = .ok (.iload_n 0, 1) := by decide +kernel
theorem dX7_tellsRows_7 : decode cX7_tellsRows 7 = .ok (.bipush 100, 2) := by decide +kernel
theorem dX7_tellsRows_9 : decode cX7_tellsRows 9 = .ok (.idiv, 1) := by decide +kernel
theorem dX7_tellsRows_10 : decode cX7_tellsRows 10 = .ok (.bipush 10, 2) := by decide +kernel
theorem dX7_tellsRows_12 : decode cX7_tellsRows 12 = .ok (.irem, 1) := by decide +kernel
theorem dX7_tellsRows_13 : decode cX7_tellsRows 13 = .ok (.istore_n 3, 1) := by decide +kernel
theorem dX7_tellsRows_14 : decode cX7_tellsRows 14 = .ok (.iload_n 0, 1) := by decide +kernel
theorem dX7_tellsRows_15 : decode cX7_tellsRows 15 = .ok (.bipush 10, 2) := by decide +kernel
theorem dX7_tellsRows_17 : decode cX7_tellsRows 17 = .ok (.idiv, 1) := by decide +kernel
theorem dX7_tellsRows_18 : decode cX7_tellsRows 18 = .ok (.bipush 10, 2) := by decide +kernel
theorem dX7_tellsRows_20 : decode cX7_tellsRows 20 = .ok (.irem, 1) := by decide +kernel
theorem dX7_tellsRows_21 : decode cX7_tellsRows 21 = .ok (.istore 4, 2) := by decide +kernel
theorem dX7_tellsRows_23 : decode cX7_tellsRows 23 = .ok (.iload_n 0, 1) := by decide +kernel
theorem dX7_tellsRows_24 : decode cX7_tellsRows 24 = .ok (.bipush 10, 2) := by decide +kernel
theorem dX7_tellsRows_26 : decode cX7_tellsRows 26 = .ok (.irem, 1) := by decide +kernel
theorem dX7_tellsRows_27 : decode cX7_tellsRows 27 = .ok (.istore 5, 2) := by decide +kernel
theorem dX7_tellsRows_29 : decode cX7_tellsRows 29 = .ok (.aload_n 1, 1) := by decide +kernel
theorem dX7_tellsRows_30 : decode cX7_tellsRows 30 = .ok (.getfield 33, 3) := by decide +kernel
theorem dX7_tellsRows_33 : decode cX7_tellsRows 33 = .ok (.astore 6, 2) := by decide +kernel
theorem dX7_tellsRows_35 : decode cX7_tellsRows 35 = .ok (.iconst 0, 1) := by decide +kernel
theorem dX7_tellsRows_36 : decode cX7_tellsRows 36 = .ok (.istore 7, 2) := by decide +kernel
theorem dX7_tellsRows_38 : decode cX7_tellsRows 38 = .ok (.iload 7, 2) := by decide +kernel
theorem dX7_tellsRows_40 : decode cX7_tellsRows 40 = .ok (.aload_n 1, 1) := by decide +kernel
theorem dX7_tellsRows_41 : decode cX7_tellsRows 41 = .ok (.getfield 27, 3) := by decide +kernel
theorem dX7_tellsRows_44 : decode cX7_tellsRows 44 = .ok (.if_icmp .ge 69, 3) := by decide +kernel
theorem dX7_tellsRows_47 : decode cX7_tellsRows 47 = .ok (.iload_n 2, 1) := by decide +kernel
theorem dX7_tellsRows_48 : decode cX7_tellsRows 48 = .ok (.aload 6, 2) := by decide +kernel
theorem dX7_tellsRows_50 : decode cX7_tellsRows 50 = .ok (.iload 7, 2) := by decide +kernel
theorem dX7_tellsRows_52 : decode cX7_tellsRows 52 = .ok (.iaload, 1) := by decide +kernel
theorem dX7_tellsRows_53 : decode cX7_tellsRows 53 = .ok (.imul, 1) := by decide +kernel
theorem dX7_tellsRows_54 : decode cX7_tellsRows 54 = .ok (.iload_n 3, 1) := by decide +kernel
theorem dX7_tellsRows_55 : decode cX7_tellsRows 55 = .ok (.iconst 2, 1) := by decide +kernel
theorem dX7_tellsRows_56 : decode cX7_tellsRows 56 = .ok (.imul, 1) := by decide +kernel
theorem dX7_tellsRows_57 : decode cX7_tellsRows 57 = .ok (.aload 6, 2) := by decide +kernel
theorem dX7_tellsRows_59 : decode cX7_tellsRows 59 = .ok (.iload 7, 2) := by decide +kernel
theorem dX7_tellsRows_61 : decode cX7_tellsRows 61 = .ok (.iconst 1, 1) := by decide +kernel
theorem dX7_tellsRows_62 : decode cX7_tellsRows 62 = .ok (.iadd, 1) := by decide +kernel
theorem dX7_tellsRows_63 : decode cX7_tellsRows 63 = .ok (.iaload, 1) := by decide +kernel
theorem dX7_tellsRows_64 : decode cX7_tellsRows 64 = .ok (.imul, 1) := by decide +kernel
theorem dX7_tellsRows_65 : decode cX7_tellsRows 65 = .ok (.iadd, 1) := by decide +kernel
theorem dX7_tellsRows_66 : decode cX7_tellsRows 66 = .ok (.iload 4, 2) := by decide +kernel
theorem dX7_tellsRows_68 : decode cX7_tellsRows 68 = .ok (.aload 6, 2) := by decide +kernel
theorem dX7_tellsRows_70 : decode cX7_tellsRows 70 = .ok (.iload 7, 2) := by decide +kernel
theorem dX7_tellsRows_72 : decode cX7_tellsRows 72 = .ok (.iconst 2, 1) := by decide +kernel
theorem dX7_tellsRows_73 : decode cX7_tellsRows 73 = .ok (.iadd, 1) := by decide +kernel
theorem dX7_tellsRows_74 : decode cX7_tellsRows 74 = .ok (.iaload, 1) := by decide +kernel
theorem dX7_tellsRows_75 : decode cX7_tellsRows 75 = .ok (.imul, 1) := by decide +kernel
theorem dX7_tellsRows_76 : decode cX7_tellsRows 76 = .ok (.iadd, 1) := by decide +kernel
theorem dX7_tellsRows_77 : decode cX7_tellsRows 77 = .ok (.iload 5, 2) := by decide +kernel
theorem dX7_tellsRows_79 : decode cX7_tellsRows 79 = .ok (.aload 6, 2) := by decide +kernel
theorem dX7_tellsRows_81 : decode cX7_tellsRows 81 = .ok (.iload 7, 2) := by decide +kernel
theorem dX7_tellsRows_83 : decode cX7_tellsRows 83 = .ok (.iconst 3, 1) := by decide +kernel
theorem dX7_tellsRows_84 : decode cX7_tellsRows 84 = .ok (.iadd, 1) := by decide +kernel
theorem dX7_tellsRows_85 : decode cX7_tellsRows 85 = .ok (.iaload, 1) := by decide +kernel
theorem dX7_tellsRows_86 : decode cX7_tellsRows 86 = .ok (.imul, 1) := by decide +kernel
theorem dX7_tellsRows_87 : decode cX7_tellsRows 87 = .ok (.isub, 1) := by decide +kernel
theorem dX7_tellsRows_88 : decode cX7_tellsRows 88 = .ok (.istore 8, 2) := by decide +kernel
theorem dX7_tellsRows_90 : decode cX7_tellsRows 90 = .ok (.iload 8, 2) := by decide +kernel
theorem dX7_tellsRows_92 : decode cX7_tellsRows 92 = .ok (.aload 6, 2) := by decide +kernel
theorem dX7_tellsRows_94 : decode cX7_tellsRows 94 = .ok (.iload 7, 2) := by decide +kernel
theorem dX7_tellsRows_96 : decode cX7_tellsRows 96 = .ok (.iconst 4, 1) := by decide +kernel
theorem dX7_tellsRows_97 : decode cX7_tellsRows 97 = .ok (.iadd, 1) := by decide +kernel
theorem dX7_tellsRows_98 : decode cX7_tellsRows 98 = .ok (.iaload, 1) := by decide +kernel
theorem dX7_tellsRows_99 : decode cX7_tellsRows 99 = .ok (.bipush 100, 2) := by decide +kernel
theorem dX7_tellsRows_101 : decode cX7_tellsRows 101 = .ok (.isub, 1) := by decide +kernel
theorem dX7_tellsRows_102 : decode cX7_tellsRows 102 = .ok (.if_icmp .eq 5, 3) := by decide +kernel
theorem dX7_tellsRows_105 : decode cX7_tellsRows 105 = .ok (.iconst 0, 1) := by decide +kernel
theorem dX7_tellsRows_106 : decode cX7_tellsRows 106 = .ok (.ireturn, 1) := by decide +kernel
theorem dX7_tellsRows_107 : decode cX7_tellsRows 107 = .ok (.iinc 7 5, 3) := by decide +kernel
theorem dX7_tellsRows_110 : decode cX7_tellsRows 110 = .ok (.goto (-72), 3) := by decide +kernel
theorem dX7_tellsRows_113 : decode cX7_tellsRows 113 = .ok (.iconst 1, 1) := by decide +kernel
theorem dX7_tellsRows_114 : decode cX7_tellsRows 114 = .ok (.ireturn, 1) := by decide +kernel
theorem dX7_findLaws_0 : decode cX7_findLaws 0 = .ok (.aload_n 1, 1) := by decide +kernel
theorem dX7_findLaws_1 : decode cX7_findLaws 1 = .ok (.invokestatic 40, 3) := by decide +kernel
theorem dX7_findLaws_4 : decode cX7_findLaws 4 = .ok (.ifCond .ne 5, 3) := by decide +kernel
theorem dX7_findLaws_7 : decode cX7_findLaws 7 = .ok (.iconst (-1), 1) := by decide +kernel
theorem dX7_findLaws_8 : decode cX7_findLaws 8 = .ok (.ireturn, 1) := by decide +kernel
theorem dX7_findLaws_9 : decode cX7_findLaws 9 = .ok (.aload_n 0, 1) := by decide +kernel
theorem dX7_findLaws_10 : decode cX7_findLaws 10 = .ok (.iconst 0, 1) := by decide +kernel
theorem dX7_findLaws_11 : decode cX7_findLaws 11 = .ok (.putfield 44, 3) := by decide +kernel
theorem dX7_findLaws_14 : decode cX7_findLaws 14 = .ok (.iconst 0, 1) := by decide +kernel
theorem dX7_findLaws_15 : decode cX7_findLaws 15 = .ok (.istore_n 2, 1) := by decide +kernel
theorem dX7_findLaws_16 : decode cX7_findLaws 16 = .ok (.iload_n 2, 1) := by decide +kernel
theorem dX7_findLaws_17 : decode cX7_findLaws 17 = .ok (.sipush 10000, 3) := by decide +kernel
theorem dX7_findLaws_20 : decode cX7_findLaws 20 = .ok (.if_icmp .ge 46, 3) := by decide +kernel
theorem dX7_findLaws_23 : decode cX7_findLaws 23 = .ok (.iload_n 2, 1) := by decide +kernel
theorem dX7_findLaws_24 : decode cX7_findLaws 24 = .ok (.aload_n 1, 1) := by decide +kernel
theorem dX7_findLaws_25 : decode cX7_findLaws 25 = .ok (.invokestatic 47, 3) := by decide +kernel
theorem dX7_findLaws_28 : decode cX7_findLaws 28 = .ok (.ifCond .eq 32, 3) := by decide +kernel
theorem dX7_findLaws_31 : decode cX7_findLaws 31 = .ok (.aload_n 0, 1) := by decide +kernel
theorem dX7_findLaws_32 : decode cX7_findLaws 32 = .ok (.getfield 44, 3) := by decide +kernel
theorem dX7_findLaws_35 : decode cX7_findLaws 35 = .ok (.bipush 100, 2) := by decide +kernel
theorem dX7_findLaws_37 : decode cX7_findLaws 37 = .ok (.if_icmp .ge 13, 3) := by decide +kernel
theorem dX7_findLaws_40 : decode cX7_findLaws 40 = .ok (.aload_n 0, 1) := by decide +kernel
theorem dX7_findLaws_41 : decode cX7_findLaws 41 = .ok (.getfield 18, 3) := by decide +kernel
theorem dX7_findLaws_44 : decode cX7_findLaws 44 = .ok (.aload_n 0, 1) := by decide +kernel
theorem dX7_findLaws_45 : decode cX7_findLaws 45 = .ok (.getfield 44, 3) := by decide +kernel
theorem dX7_findLaws_48 : decode cX7_findLaws 48 = .ok (.iload_n 2, 1) := by decide +kernel
theorem dX7_findLaws_49 : decode cX7_findLaws 49 = .ok (.iastore, 1) := by decide +kernel
theorem dX7_findLaws_50 : decode cX7_findLaws 50 = .ok (.aload_n 0, 1) := by decide +kernel
theorem dX7_findLaws_51 : decode cX7_findLaws 51 = .ok (.dup, 1) := by decide +kernel
theorem dX7_findLaws_52 : decode cX7_findLaws 52 = .ok (.getfield 44, 3) := by decide +kernel
theorem dX7_findLaws_55 : decode cX7_findLaws 55 = .ok (.iconst 1, 1) := by decide +kernel
theorem dX7_findLaws_56 : decode cX7_findLaws 56 = .ok (.iadd, 1) := by decide +kernel
theorem dX7_findLaws_57 : decode cX7_findLaws 57 = .ok (.putfield 44, 3) := by decide +kernel
theorem dX7_findLaws_60 : decode cX7_findLaws 60 = .ok (.iinc 2 1, 3) := by decide +kernel
theorem dX7_findLaws_63 : decode cX7_findLaws 63 = .ok (.goto (-47), 3) := by decide +kernel
theorem dX7_findLaws_66 : decode cX7_findLaws 66 = .ok (.aload_n 0, 1) := by decide +kernel
theorem dX7_findLaws_67 : decode cX7_findLaws 67 = .ok (.getfield 44, 3) := by decide +kernel
theorem dX7_findLaws_70 : decode cX7_findLaws 70 = .ok (.ireturn, 1) := by decide +kernel
theorem dX7_lawAt_0 : decode cX7_lawAt 0 = .ok (.iload_n 1, 1) := by decide +kernel
theorem dX7_lawAt_1 : decode cX7_lawAt 1 = .ok (.ifCond .lt 17, 3) := by decide +kernel
theorem dX7_lawAt_4 : decode cX7_lawAt 4 = .ok (.iload_n 1, 1) := by decide +kernel
theorem dX7_lawAt_5 : decode cX7_lawAt 5 = .ok (.aload_n 0, 1) := by decide +kernel
theorem dX7_lawAt_6 : decode cX7_lawAt 6 = .ok (.getfield 44, 3) := by decide +kernel
theorem dX7_lawAt_9 : decode cX7_lawAt 9 = .ok (.if_icmp .ge 9, 3) := by decide +kernel
theorem dX7_lawAt_12 : decode cX7_lawAt 12 = .ok (.iload_n 1, 1) := by decide +kernel
theorem dX7_lawAt_13 : decode cX7_lawAt 13 = .ok (.bipush 100, 2) := by decide +kernel
theorem dX7_lawAt_15 : decode cX7_lawAt 15 = .ok (.if_icmp .lt 7, 3) := by decide +kernel
theorem dX7_lawAt_18 : decode cX7_lawAt 18 = .ok (.iconst (-1), 1) := by decide +kernel
theorem dX7_lawAt_19 : decode cX7_lawAt 19 = .ok (.goto 9, 3) := by decide +kernel
theorem dX7_lawAt_22 : decode cX7_lawAt 22 = .ok (.aload_n 0, 1) := by decide +kernel
theorem dX7_lawAt_23 : decode cX7_lawAt 23 = .ok (.getfield 18, 3) := by decide +kernel
theorem dX7_lawAt_26 : decode cX7_lawAt 26 = .ok (.iload_n 1, 1) := by decide +kernel
theorem dX7_lawAt_27 : decode cX7_lawAt 27 = .ok (.iaload, 1) := by decide +kernel
theorem dX7_lawAt_28 : decode cX7_lawAt 28 = .ok (.ireturn, 1) := by decide +kernel
theorem dX7_rounds_0 : decode cX7_rounds 0 = .ok (.iload_n 1, 1) := by decide +kernel
theorem dX7_rounds_1 : decode cX7_rounds 1 = .ok (.iconst 1, 1) := by decide +kernel
theorem dX7_rounds_2 : decode cX7_rounds 2 = .ok (.if_icmp .lt 20, 3) := by decide +kernel
theorem dX7_rounds_5 : decode cX7_rounds 5 = .ok (.iload_n 1, 1) := by decide +kernel
theorem dX7_rounds_6 : decode cX7_rounds 6 = .ok (.bipush 12, 2) := by decide +kernel
theorem dX7_rounds_8 : decode cX7_rounds 8 = .ok (.if_icmp .gt 14, 3) := by decide +kernel
theorem dX7_rounds_11 : decode cX7_rounds 11 = .ok (.iload_n 2, 1) := by decide +kernel
theorem dX7_rounds_12 : decode cX7_rounds 12 = .ok (.iconst 1, 1) := by decide +kernel
theorem dX7_rounds_13 : decode cX7_rounds 13 = .ok (.if_icmp .lt 9, 3) := by decide +kernel
theorem dX7_rounds_16 : decode cX7_rounds 16 = .ok (.iload_n 2, 1) := by decide +kernel
theorem dX7_rounds_17 : decode cX7_rounds 17 = .ok (.bipush 9, 2) := by decide +kernel
theorem dX7_rounds_19 : decode cX7_rounds 19 = .ok (.if_icmp .le 5, 3) := by decide +kernel
theorem dX7_rounds_22 : decode cX7_rounds 22 = .ok (.iconst (-1), 1) := by decide +kernel
theorem dX7_rounds_23 : decode cX7_rounds 23 = .ok (.ireturn, 1) := by decide +kernel
theorem dX7_rounds_24 : decode cX7_rounds 24 = .ok (.iconst 1, 1) := by decide +kernel
theorem dX7_rounds_25 : decode cX7_rounds 25 = .ok (.istore_n 3, 1) := by decide +kernel
theorem dX7_rounds_26 : decode cX7_rounds 26 = .ok (.iload_n 3, 1) := by decide +kernel
theorem dX7_rounds_27 : decode cX7_rounds 27 = .ok (.iload_n 2, 1) := by decide +kernel
theorem dX7_rounds_28 : decode cX7_rounds 28 = .ok (.if_icmp .ge 17, 3) := by decide +kernel
theorem dX7_rounds_31 : decode cX7_rounds 31 = .ok (.iload_n 3, 1) := by decide +kernel
theorem dX7_rounds_32 : decode cX7_rounds 32 = .ok (.iload_n 1, 1) := by decide +kernel
theorem dX7_rounds_33 : decode cX7_rounds 33 = .ok (.imul, 1) := by decide +kernel
theorem dX7_rounds_34 : decode cX7_rounds 34 = .ok (.iload_n 2, 1) := by decide +kernel
theorem dX7_rounds_35 : decode cX7_rounds 35 = .ok (.irem, 1) := by decide +kernel
theorem dX7_rounds_36 : decode cX7_rounds 36 = .ok (.ifCond .eq 9, 3) := by decide +kernel
theorem dX7_rounds_39 : decode cX7_rounds 39 = .ok (.iinc 3 1, 3) := by decide +kernel
theorem dX7_rounds_42 : decode cX7_rounds 42 = .ok (.goto (-16), 3) := by decide +kernel
theorem dX7_rounds_45 : decode cX7_rounds 45 = .ok (.iload_n 3, 1) := by decide +kernel
theorem dX7_rounds_46 : decode cX7_rounds 46 = .ok (.ireturn, 1) := by decide +kernel
