theorem dX8_marksFor_0 : decode cX8_marksFor 0 = .ok (.iload_n 2, 1) := by decide +kernel
theorem dX8_marksFor_1 : decode cX8_marksFor 1 = .ok (.ifCond .eq 14, 3) := by decide +kernel
theorem dX8_marksFor_4 : decode cX8_marksFor 4 = .ok (.aload_n 0, 1) := by decide +kernel
theorem dX8_marksFor_5 : decode cX8_marksFor 5 = .ok (.getfield 49, 3) := by decide +kernel
theorem dX8_marksFor_8 : decode cX8_marksFor 8 = .ok (.iconst 1, 1) := by decide +kernel
theorem dX8_marksFor_9 : decode cX8_marksFor 9 = .ok (.iaload, 1) := by decide +kernel
theorem dX8_marksFor_10 : decode cX8_marksFor 10 = .ok (.iconst 2, 1) := by decide +kernel
theorem dX8_marksFor_11 : decode cX8_marksFor 11 = .ok (.imul, 1) := by decide +kernel
theorem dX8_marksFor_12 : decode cX8_marksFor 12 = .ok (.goto 4, 3) := by decide +kernel
theorem dX8_marksFor_15 : decode cX8_marksFor 15 = .ok (.iconst 0, 1) := by decide +kernel
theorem dX8_marksFor_16 : decode cX8_marksFor 16 = .ok (.istore 4, 2) := by decide +kernel
theorem dX8_marksFor_18 : decode cX8_marksFor 18 = .ok (.iload_n 1, 1) := by decide +kernel
theorem dX8_marksFor_19 : decode cX8_marksFor 19 = .ok (.bipush 7, 2) := by decide +kernel
theorem dX8_marksFor_21 : decode cX8_marksFor 21 = .ok (.if_icmp .lt 12, 3) := by decide +kernel
theorem dX8_marksFor_24 : decode cX8_marksFor 24 = .ok (.aload_n 0, 1) := by decide +kernel
theorem dX8_marksFor_25 : decode cX8_marksFor 25 = .ok (.getfield 49, 3) := by decide +kernel
theorem dX8_marksFor_28 : decode cX8_marksFor 28 = .ok (.iconst 3, 1) := by decide +kernel
theorem dX8_marksFor_29 : decode cX8_marksFor 29 = .ok (.iaload, 1) := by decide +kernel
theorem dX8_marksFor_30 : decode cX8_marksFor 30 = .ok (.goto 4, 3) := by decide +kernel
theorem dX8_marksFor_33 : decode cX8_marksFor 33 = .ok (.iconst 0, 1) := by decide +kernel
theorem dX8_marksFor_34 : decode cX8_marksFor 34 = .ok (.istore 5, 2) := by decide +kernel
theorem dX8_marksFor_36 : decode cX8_marksFor 36 = .ok (.aload_n 0, 1) := by decide +kernel
theorem dX8_marksFor_37 : decode cX8_marksFor 37 = .ok (.getfield 49, 3) := by decide +kernel
theorem dX8_marksFor_40 : decode cX8_marksFor 40 = .ok (.iconst 0, 1) := by decide +kernel
theorem dX8_marksFor_41 : decode cX8_marksFor 41 = .ok (.iaload, 1) := by decide +kernel
theorem dX8_marksFor_42 : decode cX8_marksFor 42 = .ok (.iload_n 1, 1) := by decide +kernel
theorem dX8_marksFor_43 : decode cX8_marksFor 43 = .ok (.imul, 1) := by decide +kernel
theorem dX8_marksFor_44 : decode cX8_marksFor 44 = .ok (.iload 4, 2) := by decide +kernel
theorem dX8_marksFor_46 : decode cX8_marksFor 46 = .ok (.iadd, 1) := by decide +kernel
theorem dX8_marksFor_47 : decode cX8_marksFor 47 = .ok (.aload_n 0, 1) := by decide +kernel
theorem dX8_marksFor_48 : decode cX8_marksFor 48 = .ok (.getfield 49, 3) := by decide +kernel
theorem dX8_marksFor_51 : decode cX8_marksFor 51 = .ok (.iconst 2, 1) := by decide +kernel
theorem dX8_marksFor_52 : decode cX8_marksFor 52 = .ok (.iaload, 1) := by decide +kernel
theorem dX8_marksFor_53 : decode cX8_marksFor 53 = .ok (.iload_n 3, 1) := by decide +kernel
theorem dX8_marksFor_54 : decode cX8_marksFor 54 = .ok (.imul, 1) := by decide +kernel
theorem dX8_marksFor_55 : decode cX8_marksFor 55 = .ok (.iadd, 1) := by decide +kernel
theorem dX8_marksFor_56 : decode cX8_marksFor 56 = .ok (.iload 5, 2) := by decide +kernel
theorem dX8_marksFor_58 : decode cX8_marksFor 58 = .ok (.isub, 1) := by decide +kernel
theorem dX8_marksFor_59 : decode cX8_marksFor 59 = .ok (.ireturn, 1) := by decide +kernel
theorem dX8_hitOf_0 : decode cX8_hitOf 0 = .ok (.aload_n 0, 1) := by decide +kernel
theorem dX8_hitOf_1 : decode cX8_hitOf 1 = .ok (.getfield 22, 3) := by decide +kernel
theorem dX8_hitOf_4 : decode cX8_hitOf 4 = .ok (.iload_n 1, 1) := by decide +kernel
theorem dX8_hitOf_5 : decode cX8_hitOf 5 = .ok (.iaload, 1) := by decide +kernel
theorem dX8_hitOf_6 : decode cX8_hitOf 6 = .ok (.iload 4, 2) := by decide +kernel
theorem dX8_hitOf_8 : decode cX8_hitOf 8 = .ok (.iadd, 1) := by decide +kernel
theorem dX8_hitOf_9 : decode cX8_hitOf 9 = .ok (.iload_n 3, 1) := by decide +kernel
theorem dX8_hitOf_10 : decode cX8_hitOf 10 = .ok (.iconst 2, 1) := by decide +kernel
theorem dX8_hitOf_11 : decode cX8_hitOf 11 = .ok (.if_icmp .gt 7, 3) := by decide +kernel
theorem dX8_hitOf_14 : decode cX8_hitOf 14 = .ok (.iconst 2, 1) := by decide +kernel
theorem dX8_hitOf_15 : decode cX8_hitOf 15 = .ok (.goto 5, 3) := by decide +kernel
theorem dX8_hitOf_18 : decode cX8_hitOf 18 = .ok (.iload_n 3, 1) := by decide +kernel
theorem dX8_hitOf_19 : decode cX8_hitOf 19 = .ok (.ineg, 1) := by decide +kernel
theorem dX8_hitOf_20 : decode cX8_hitOf 20 = .ok (.iadd, 1) := by decide +kernel
theorem dX8_hitOf_21 : decode cX8_hitOf 21 = .ok (.aload_n 0, 1) := by decide +kernel
theorem dX8_hitOf_22 : decode cX8_hitOf 22 = .ok (.getfield 37, 3) := by decide +kernel
theorem dX8_hitOf_25 : decode cX8_hitOf 25 = .ok (.iload_n 2, 1) := by decide +kernel
theorem dX8_hitOf_26 : decode cX8_hitOf 26 = .ok (.iaload, 1) := by decide +kernel
theorem dX8_hitOf_27 : decode cX8_hitOf 27 = .ok (.isub, 1) := by decide +kernel
theorem dX8_hitOf_28 : decode cX8_hitOf 28 = .ok (.istore 5, 2) := by decide +kernel
theorem dX8_hitOf_30 : decode cX8_hitOf 30 = .ok (.iload 5, 2) := by decide +kernel
theorem dX8_hitOf_32 : decode cX8_hitOf 32 = .ok (.iconst 0, 1) := by decide +kernel
theorem dX8_hitOf_33 : decode cX8_hitOf 33 = .ok (.invokestatic 97, 3) := by decide +kernel
theorem dX8_hitOf_36 : decode cX8_hitOf 36 = .ok (.ireturn, 1) := by decide +kernel
theorem dX8_hasCell_0 : decode cX8_hasCell 0 = .ok (.iload_n 1, 1) := by decide +kernel
theorem dX8_hasCell_1 : decode cX8_hasCell 1 = .ok (.ifCond .lt 35, 3) := by decide +kernel
theorem dX8_hasCell_4 : decode cX8_hasCell 4 = .ok (.iload_n 1, 1) := by decide +kernel
theorem dX8_hasCell_5 : decode cX8_hasCell 5 = .ok (.bipush 100, 2) := by decide +kernel
theorem dX8_hasCell_7 : decode cX8_hasCell 7 = .ok (.if_icmp .ge 29, 3) := by decide +kernel
theorem dX8_hasCell_10 : decode cX8_hasCell 10 = .ok (.iload_n 1, 1) := by decide +kernel
theorem dX8_hasCell_11 : decode cX8_hasCell 11 = .ok (.bipush 10, 2) := by decide +kernel
theorem dX8_hasCell_13 : decode cX8_hasCell 13 = .ok (.irem, 1) := by decide +kernel
theorem dX8_hasCell_14 : decode cX8_hasCell 14 = .ok (.aload_n 0, 1) := by decide +kernel
theorem dX8_hasCell_15 : decode cX8_hasCell 15 = .ok (.getfield 59, 3) := by decide +kernel
theorem dX8_hasCell_18 : decode cX8_hasCell 18 = .ok (.if_icmp .ge 18, 3) := by decide +kernel
theorem dX8_hasCell_21 : decode cX8_hasCell 21 = .ok (.iload_n 1, 1) := by decide +kernel
theorem dX8_hasCell_22 : decode cX8_hasCell 22 = .ok (.bipush 10, 2) := by decide +kernel
theorem dX8_hasCell_24 : decode cX8_hasCell 24 = .ok (.idiv, 1) := by decide +kernel
theorem dX8_hasCell_25 : decode cX8_hasCell 25 = .ok (.aload_n 0, 1) := by decide +kernel
theorem dX8_hasCell_26 : decode cX8_hasCell 26 = .ok (.getfield 62, 3) := by decide +kernel
theorem dX8_hasCell_29 : decode cX8_hasCell 29 = .ok (.if_icmp .ge 7, 3) := by decide +kernel
theorem dX8_hasCell_32 : decode cX8_hasCell 32 = .ok (.iconst 1, 1) := by decide +kernel
theorem dX8_hasCell_33 : decode cX8_hasCell 33 = .ok (.goto 4, 3) := by decide +kernel
theorem dX8_hasCell_36 : decode cX8_hasCell 36 = .ok (.iconst 0, 1) := by decide +kernel
theorem dX8_hasCell_37 : decode cX8_hasCell 37 = .ok (.ireturn, 1) := by decide +kernel
theorem dX8_hasOn_0 : decode cX8_hasOn 0 = .ok (.iload_n 2, 1) := by decide +kernel
theorem dX8_hasOn_1 : decode cX8_hasOn 1 = .ok (.ifCond .lt 26, 3) := by decide +kernel
theorem dX8_hasOn_4 : decode cX8_hasOn 4 = .ok (.iload_n 2, 1) := by decide +kernel
theorem dX8_hasOn_5 : decode cX8_hasOn 5 = .ok (.bipush 100, 2) := by decide +kernel
theorem dX8_hasOn_7 : decode cX8_hasOn 7 = .ok (.if_icmp .ge 20, 3) := by decide +kernel
theorem dX8_hasOn_10 : decode cX8_hasOn 10 = .ok (.aload_n 0, 1) := by decide +kernel
theorem dX8_hasOn_11 : decode cX8_hasOn 11 = .ok (.getfield 43, 3) := by decide +kernel
theorem dX8_hasOn_14 : decode cX8_hasOn 14 = .ok (.iload_n 2, 1) := by decide +kernel
theorem dX8_hasOn_15 : decode cX8_hasOn 15 = .ok (.iaload, 1) := by decide +kernel
theorem dX8_hasOn_16 : decode cX8_hasOn 16 = .ok (.iload_n 1, 1) := by decide +kernel
theorem dX8_hasOn_17 : decode cX8_hasOn 17 = .ok (.ishr, 1) := by decide +kernel
theorem dX8_hasOn_18 : decode cX8_hasOn 18 = .ok (.iconst 1, 1) := by decide +kernel
theorem dX8_hasOn_19 : decode cX8_hasOn 19 = .ok (.iand, 1) := by decide +kernel
theorem dX8_hasOn_20 : decode cX8_hasOn 20 = .ok (.ifCond .eq 7, 3) := by decide +kernel
theorem dX8_hasOn_23 : decode cX8_hasOn 23 = .ok (.iconst 1, 1) := by decide +kernel
theorem dX8_hasOn_24 : decode cX8_hasOn 24 = .ok (.goto 4, 3) := by decide +kernel
theorem dX8_hasOn_27 : decode cX8_hasOn 27 = .ok (.iconst 0, 1) := by decide +kernel
theorem dX8_hasOn_28 : decode cX8_hasOn 28 = .ok (.ireturn, 1) := by decide +kernel
theorem dX8_sideOf_0 : decode cX8_sideOf 0 = .ok (.iload_n 1, 1) := by decide +kernel
theorem dX8_sideOf_1 : decode cX8_sideOf 1 = .ok (.bipush 10, 2) := by decide +kernel
theorem dX8_sideOf_3 : decode cX8_sideOf 3 = .ok (.irem, 1) := by decide +kernel
theorem dX8_sideOf_4 : decode cX8_sideOf 4 = .ok (.iload_n 2, 1) := by decide +kernel
theorem dX8_sideOf_5 : decode cX8_sideOf 5 = .ok (.iconst 1, 1) := by decide +kernel
theorem dX8_sideOf_6 : decode cX8_sideOf 6 = .ok (.if_icmp .ne 7, 3) := by decide +kernel
theorem dX8_sideOf_9 : decode cX8_sideOf 9 = .ok (.iconst 1, 1) := by decide +kernel
theorem dX8_sideOf_10 : decode cX8_sideOf 10 = .ok (.goto 13, 3) := by decide +kernel
theorem dX8_sideOf_13 : decode cX8_sideOf 13 = .ok (.iload_n 2, 1) := by decide +kernel
theorem dX8_sideOf_14 : decode cX8_sideOf 14 = .ok (.iconst 2, 1) := by decide +kernel
theorem dX8_sideOf_15 : decode cX8_sideOf 15 = .ok (.if_icmp .ne 7, 3) := by decide +kernel
theorem dX8_sideOf_18 : decode cX8_sideOf 18 = .ok (.iconst (-1), 1) := by decide +kernel
theorem dX8_sideOf_19 : decode cX8_sideOf 19 = .ok (.goto 4, 3) := by decide +kernel
theorem dX8_sideOf_22 : decode cX8_sideOf 22 = .ok (.iconst 0, 1) := by decide +kernel
theorem dX8_sideOf_23 : decode cX8_sideOf 23 = .ok (.iadd, 1) := by decide +kernel
theorem dX8_sideOf_24 : decode cX8_sideOf 24 = .ok (.istore_n 3, 1) := by decide +kernel
theorem dX8_sideOf_25 : decode cX8_sideOf 25 = .ok (.iload_n 1, 1) := by decide +kernel
theorem dX8_sideOf_26 : decode cX8_sideOf 26 = .ok (.bipush 10, 2) := by decide +kernel
theorem dX8_sideOf_28 : decode cX8_sideOf 28 = .ok (.idiv, 1) := by decide +kernel
theorem dX8_sideOf_29 : decode cX8_sideOf 29 = .ok (.iload_n 2, 1) := by decide +kernel
theorem dX8_sideOf_30 : decode cX8_sideOf 30 = .ok (.iconst 3, 1) := by decide +kernel
theorem dX8_sideOf_31 : decode cX8_sideOf 31 = .ok (.if_icmp .ne 7, 3) := by decide +kernel
theorem dX8_sideOf_34 : decode cX8_sideOf 34 = .ok (.iconst 1, 1) := by decide +kernel
theorem dX8_sideOf_35 : decode cX8_sideOf 35 = .ok (.goto 13, 3) := by decide +kernel
theorem dX8_sideOf_38 : decode cX8_sideOf 38 = .ok (.iload_n 2, 1) := by decide +kernel
theorem dX8_sideOf_39 : decode cX8_sideOf 39 = .ok (.iconst 4, 1) := by decide +kernel
theorem dX8_sideOf_40 : decode cX8_sideOf 40 = .ok (.if_icmp .ne 7, 3) := by decide +kernel
theorem dX8_sideOf_43 : decode cX8_sideOf 43 = .ok (.iconst (-1), 1) := by decide +kernel
theorem dX8_sideOf_44 : decode cX8_sideOf 44 = .ok (.goto 4, 3) := by decide +kernel
theorem dX8_sideOf_47 : decode cX8_sideOf 47 = .ok (.iconst 0, 1) := by decide +kernel
theorem dX8_sideOf_48 : decode cX8_sideOf 48 = .ok (.iadd, 1) := by decide +kernel
theorem dX8_sideOf_49 : decode cX8_sideOf 49 = .ok (.istore 4, 2) := by decide +kernel
theorem dX8_sideOf_51 : decode cX8_sideOf 51 = .ok (.iload_n 3, 1) := by decide +kernel
theorem dX8_sideOf_52 : decode cX8_sideOf 52 = .ok (.ifCond .lt 35, 3) := by decide +kernel
theorem dX8_sideOf_55 : decode cX8_sideOf 55 = .ok (.iload_n 3, 1) := by decide +kernel
theorem dX8_sideOf_56 : decode cX8_sideOf 56 = .ok (.aload_n 0, 1) := by decide +kernel
theorem dX8_sideOf_57 : decode cX8_sideOf 57 = .ok (.getfield 59, 3) := by decide +kernel
theorem dX8_sideOf_60 : decode cX8_sideOf 60 = .ok (.if_icmp .ge 27, 3) := by decide +kernel
theorem dX8_sideOf_63 : decode cX8_sideOf 63 = .ok (.iload 4, 2) := by decide +kernel
theorem dX8_sideOf_65 : decode cX8_sideOf 65 = .ok (.ifCond .lt 22, 3) := by decide +kernel
theorem dX8_sideOf_68 : decode cX8_sideOf 68 = .ok (.iload 4, 2) := by decide +kernel
theorem dX8_sideOf_70 : decode cX8_sideOf 70 = .ok (.aload_n 0, 1) := by decide +kernel
theorem dX8_sideOf_71 : decode cX8_sideOf 71 = .ok (.getfield 62, 3) := by decide +kernel
theorem dX8_sideOf_74 : decode cX8_sideOf 74 = .ok (.if_icmp .ge 13, 3) := by decide +kernel
theorem dX8_sideOf_77 : decode cX8_sideOf 77 = .ok (.bipush 10, 2) := by decide +kernel
theorem dX8_sideOf_79 : decode cX8_sideOf 79 = .ok (.iload 4, 2) := by decide +kernel
theorem dX8_sideOf_81 : decode cX8_sideOf 81 = .ok (.imul, 1) := by decide +kernel
theorem dX8_sideOf_82 : decode cX8_sideOf 82 = .ok (.iload_n 3, 1) := by decide +kernel
theorem dX8_sideOf_83 : decode cX8_sideOf 83 = .ok (.iadd, 1) := by decide +kernel
theorem dX8_sideOf_84 : decode cX8_sideOf 84 = .ok (.goto 4, 3) := by decide +kernel
theorem dX8_sideOf_87 : decode cX8_sideOf 87 = .ok (.iconst (-1), 1) := by decide +kernel
theorem dX8_sideOf_88 : decode cX8_sideOf 88 = .ok (.ireturn, 1) := by decide +kernel
theorem dX8_distance_0 : decode cX8_distance 0 = .ok (.iload_n 0, 1) := by decide +kernel
theorem dX8_distance_1 : decode cX8_distance 1 = .ok (.bipush 10, 2) := by decide +kernel
theorem dX8_distance_3 : decode cX8_distance 3 = .ok (.irem, 1) := by decide +kernel
theorem dX8_distance_4 : decode cX8_distance 4 = .ok (.iload_n 1, 1) := by decide +kernel
theorem dX8_distance_5 : decode cX8_distance 5 = .ok (.bipush 10, 2) := by decide +kernel
theorem dX8_distance_7 : decode cX8_distance 7 = .ok (.irem, 1) := by decide +kernel
theorem dX8_distance_8 : decode cX8_distance 8 = .ok (.isub, 1) := by decide +kernel
theorem dX8_distance_9 : decode cX8_distance 9 = .ok (.invokestatic 91, 3) := by decide +kernel
theorem dX8_distance_12 : decode cX8_distance 12 = .ok (.iload_n 0, 1) := by decide +kernel
theorem dX8_distance_13 : decode cX8_distance 13 = .ok (.bipush 10, 2) := by decide +kernel
theorem dX8_distance_15 : decode cX8_distance 15 = .ok (.idiv, 1) := by decide +kernel
theorem dX8_distance_16 : decode cX8_distance 16 = .ok (.iload_n 1, 1) := by decide +kernel
theorem dX8_distance_17 : decode cX8_distance 17 = .ok (.bipush 10, 2) := by decide +kernel
theorem dX8_distance_19 : decode cX8_distance 19 = .ok (.idiv, 1) := by decide +kernel
theorem dX8_distance_20 : decode cX8_distance 20 = .ok (.isub, 1) := by decide +kernel
theorem dX8_distance_21 : decode cX8_distance 21 = .ok (.invokestatic 91, 3) := by decide +kernel
theorem dX8_distance_24 : decode cX8_distance 24 = .ok (.iadd, 1) := by decide +kernel
theorem dX8_distance_25 : decode cX8_distance 25 = .ok (.ireturn, 1) := by decide +kernel
theorem dX8_quarterNamed_0 : decode cX8_quarterNamed 0 = .ok (.iconst 0, 1) := by decide +kernel
theorem dX8_quarterNamed_1 : decode cX8_quarterNamed 1 = .ok (.istore_n 3, 1) := by decide +kernel
theorem dX8_quarterNamed_2 : decode cX8_quarterNamed 2 = .ok (.iload_n 3, 1) := by decide +kernel
theorem dX8_quarterNamed_3 : decode cX8_quarterNamed 3 = .ok (.aload_n 0, 1) := by decide +kernel
theorem dX8_quarterNamed_4 : decode cX8_quarterNamed 4 = .ok (.getfield 65, 3) := by decide +kernel
theorem dX8_quarterNamed_7 : decode cX8_quarterNamed 7 = .ok (.if_icmp .ge 22, 3) := by decide +kernel
theorem dX8_quarterNamed_10 : decode cX8_quarterNamed 10 = .ok (.aload_n 0, 1) := by decide +kernel
theorem dX8_quarterNamed_11 : decode cX8_quarterNamed 11 = .ok (.getfield 9, 3) := by decide +kernel
theorem dX8_quarterNamed_14 : decode cX8_quarterNamed 14 = .ok (.iload_n 3, 1) := by decide +kernel
theorem dX8_quarterNamed_15 : decode cX8_quarterNamed 15 = .ok (.laload, 1) := by decide +kernel
theorem dX8_quarterNamed_16 : decode cX8_quarterNamed 16 = .ok (.lload_n 1, 1) := by decide +kernel
theorem dX8_quarterNamed_17 : decode cX8_quarterNamed 17 = .ok (.lcmp, 1) := by decide +kernel
theorem dX8_quarterNamed_18 : decode cX8_quarterNamed 18 = .ok (.ifCond .ne 5, 3) := by decide +kernel
theorem dX8_quarterNamed_21 : decode cX8_quarterNamed 21 = .ok (.iload_n 3, 1) := by decide +kernel
theorem dX8_quarterNamed_22 : decode cX8_quarterNamed 22 = .ok (.ireturn, 1) := by decide +kernel
theorem dX8_quarterNamed_23 : decode cX8_quarterNamed 23 = .ok (.iinc 3 1, 3) := by decide +kernel
theorem dX8_quarterNamed_26 : decode cX8_quarterNamed 26 = .ok (.goto (-24), 3) := by decide +kernel
theorem dX8_quarterNamed_29 : decode cX8_quarterNamed 29 = .ok (.iconst (-1), 1) := by decide +kernel
theorem dX8_quarterNamed_30 : decode cX8_quarterNamed 30 = .ok (.ireturn, 1) := by decide +kernel
theorem dX8_empty_0 : decode cX8_empty 0 = .ok (.aload_n 0, 1) := by decide +kernel
theorem dX8_empty_1 : decode cX8_empty 1 = .ok (.iconst 0, 1) := by decide +kernel
theorem dX8_empty_2 : decode cX8_empty 2 = .ok (.putfield 55, 3) := by decide +kernel
theorem dX8_empty_5 : decode cX8_empty 5 = .ok (.aload_n 0, 1) := by decide +kernel
theorem dX8_empty_6 : decode cX8_empty 6 = .ok (.iconst 0, 1) := by decide +kernel
theorem dX8_empty_7 : decode cX8_empty 7 = .ok (.putfield 59, 3) := by decide +kernel
theorem dX8_empty_10 : decode cX8_empty 10 = .ok (.aload_n 0, 1) := by decide +kernel
theorem dX8_empty_11 : decode cX8_empty 11 = .ok (.iconst 0, 1) := by decide +kernel
theorem dX8_empty_12 : decode cX8_empty 12 = .ok (.putfield 62, 3) := by decide +kernel
theorem dX8_empty_15 : decode cX8_empty 15 = .ok (.aload_n 0, 1) := by decide +kernel
theorem dX8_empty_16 : decode cX8_empty 16 = .ok (.iconst 0, 1) := by decide +kernel
theorem dX8_empty_17 : decode cX8_empty 17 = .ok (.putfield 65, 3) := by decide +kernel
theorem dX8_empty_20 : decode cX8_empty 20 = .ok (.aload_n 0, 1) := by decide +kernel
theorem dX8_empty_21 : decode cX8_empty 21 = .ok (.iconst 0, 1) := by decide +kernel
theorem dX8_empty_22 : decode cX8_empty 22 = .ok (.putfield 68, 3) := by decide +kernel
theorem dX8_empty_25 : decode cX8_empty 25 = .ok (.aload_n 0, 1) := by decide +kernel
theorem dX8_empty_26 : decode cX8_empty 26 = .ok (.iconst 0, 1) := by decide +kernel
theorem dX8_empty_27 : decode cX8_empty 27 = .ok (.putfield 71, 3) := by decide +kernel
theorem dX8_empty_30 : decode cX8_empty 30 = .ok (.aload_n 0, 1) := by decide +kernel
theorem dX8_empty_31 : decode cX8_empty 31 = .ok (.getfield 25, 3) := by decide +kernel
theorem dX8_empty_34 : decode cX8_empty 34 = .ok (.iconst (-1), 1) := by decide +kernel
theorem dX8_empty_35 : decode cX8_empty 35 = .ok (.invokestatic 75, 3) := by decide +kernel
theorem dX8_empty_38 : decode cX8_empty 38 = .ok (.aload_n 0, 1) := by decide +kernel
theorem dX8_empty_39 : decode cX8_empty 39 = .ok (.getfield 40, 3) := by decide +kernel
theorem dX8_empty_42 : decode cX8_empty 42 = .ok (.iconst 0, 1) := by decide +kernel
theorem dX8_empty_43 : decode cX8_empty 43 = .ok (.invokestatic 75, 3) := by decide +kernel
theorem dX8_empty_46 : decode cX8_empty 46 = .ok (.aload_n 0, 1) := by decide +kernel
theorem dX8_empty_47 : decode cX8_empty 47 = .ok (.getfield 43, 3) := by decide +kernel
theorem dX8_empty_50 : decode cX8_empty 50 = .ok (.iconst 0, 1) := by decide +kernel
theorem dX8_empty_51 : decode cX8_empty 51 = .ok (.invokestatic 75, 3) := by decide +kernel
theorem dX8_empty_54 : decode cX8_empty 54 = .ok (.aload_n 0, 1) := by decide +kernel
theorem dX8_empty_55 : decode cX8_empty 55 = .ok (.getfield 46, 3) := by decide +kernel
theorem dX8_empty_58 : decode cX8_empty 58 = .ok (.iconst (-1), 1) := by decide +kernel
theorem dX8_empty_59 : decode cX8_empty 59 = .ok (.invokestatic 75, 3) := by decide +kernel
theorem dX8_empty_62 : decode cX8_empty 62 = .ok (.aload_n 0, 1) := by decide +kernel
theorem dX8_empty_63 : decode cX8_empty 63 = .ok (.getfield 49, 3) := by decide +kernel
theorem dX8_empty_66 : decode cX8_empty 66 = .ok (.iconst 1, 1) := by decide +kernel
theorem dX8_empty_67 : decode cX8_empty 67 = .ok (.invokestatic 75, 3) := by decide +kernel
theorem dX8_empty_70 : decode cX8_empty 70 = .ok (.aload_n 0, 1) := by decide +kernel
theorem dX8_empty_71 : decode cX8_empty 71 = .ok (.getfield 49, 3) := by decide +kernel
theorem dX8_empty_74 : decode cX8_empty 74 = .ok (.iconst 3, 1) := by decide +kernel
theorem dX8_empty_75 : decode cX8_empty 75 = .ok (.iconst 0, 1) := by decide +kernel
theorem dX8_empty_76 : decode cX8_empty 76 = .ok (.iastore, 1) := by decide +kernel
theorem dX8_empty_77 : decode cX8_empty 77 = .ok (.return_, 1) := by decide +kernel
theorem dX8_takeFrom_0 : decode cX8_takeFrom 0 = .ok (.aload_n 0, 1) := by decide +kernel
theorem dX8_takeFrom_1 : decode cX8_takeFrom 1 = .ok (.aload_n 1, 1) := by decide +kernel
theorem dX8_takeFrom_2 : decode cX8_takeFrom 2 = .ok (.getfield 59, 3) := by decide +kernel
theorem dX8_takeFrom_5 : decode cX8_takeFrom 5 = .ok (.putfield 59, 3) := by decide +kernel
theorem dX8_takeFrom_8 : decode cX8_takeFrom 8 = .ok (.aload_n 0, 1) := by decide +kernel
theorem dX8_takeFrom_9 : decode cX8_takeFrom 9 = .ok (.aload_n 1, 1) := by decide +kernel
theorem dX8_takeFrom_10 : decode cX8_takeFrom 10 = .ok (.getfield 62, 3) := by decide +kernel
theorem dX8_takeFrom_13 : decode cX8_takeFrom 13 = .ok (.putfield 62, 3) := by decide +kernel
theorem dX8_takeFrom_16 : decode cX8_takeFrom 16 = .ok (.aload_n 0, 1) := by decide +kernel
theorem dX8_takeFrom_17 : decode cX8_takeFrom 17 = .ok (.aload_n 1, 1) := by decide +kernel
theorem dX8_takeFrom_18 : decode cX8_takeFrom 18 = .ok (.getfield 65, 3) := by decide +kernel
theorem dX8_takeFrom_21 : decode cX8_takeFrom 21 = .ok (.putfield 65, 3) := by decide +kernel
theorem dX8_takeFrom_24 : decode cX8_takeFrom 24 = .ok (.aload_n 0, 1) := by decide +kernel
theorem dX8_takeFrom_25 : decode cX8_takeFrom 25 = .ok (.aload_n 1, 1) := by decide +kernel
theorem dX8_takeFrom_26 : decode cX8_takeFrom 26 = .ok (.getfield 68, 3) := by decide +kernel
theorem dX8_takeFrom_29 : decode cX8_takeFrom 29 = .ok (.putfield 68, 3) := by decide +kernel
theorem dX8_takeFrom_32 : decode cX8_takeFrom 32 = .ok (.aload_n 1, 1) := by decide +kernel
theorem dX8_takeFrom_33 : decode cX8_takeFrom 33 = .ok (.getfield 9, 3) := by decide +kernel
theorem dX8_takeFrom_36 : decode cX8_takeFrom 36 = .ok (.iconst 0, 1) := by decide +kernel
theorem dX8_takeFrom_37 : decode cX8_takeFrom 37 = .ok (.aload_n 0, 1) := by decide +kernel
theorem dX8_takeFrom_38 : decode cX8_takeFrom 38 = .ok (.getfield 9, 3) := by decide +kernel
theorem dX8_takeFrom_41 : decode cX8_takeFrom 41 = .ok (.iconst 0, 1) := by decide +kernel
theorem dX8_takeFrom_42 : decode cX8_takeFrom 42 = .ok (.bipush 9, 2) := by decide +kernel
theorem dX8_takeFrom_44 : decode cX8_takeFrom 44 = .ok (.invokestatic 81, 3) := by decide +kernel
theorem dX8_takeFrom_47 : decode cX8_takeFrom 47 = .ok (.aload_n 1, 1) := by decide +kernel
theorem dX8_takeFrom_48 : decode cX8_takeFrom 48 = .ok (.getfield 15, 3) := by decide +kernel
theorem dX8_takeFrom_51 : decode cX8_takeFrom 51 = .ok (.aload_n 0, 1) := by decide +kernel
theorem dX8_takeFrom_52 : decode cX8_takeFrom 52 = .ok (.getfield 15, 3) := by decide +kernel
theorem dX8_takeFrom_55 : decode cX8_takeFrom 55 = .ok (.invokestatic 87, 3) := by decide +kernel
theorem dX8_takeFrom_58 : decode cX8_takeFrom 58 = .ok (.aload_n 1, 1) := by decide +kernel
theorem dX8_takeFrom_59 : decode cX8_takeFrom 59 = .ok (.getfield 19, 3) := by decide +kernel
theorem dX8_takeFrom_62 : decode cX8_takeFrom 62 = .ok (.aload_n 0, 1) := by decide +kernel
theorem dX8_takeFrom_63 : decode cX8_takeFrom 63 = .ok (.getfield 19, 3) := by decide +kernel
theorem dX8_takeFrom_66 : decode cX8_takeFrom 66 = .ok (.invokestatic 87, 3) := by decide +kernel
theorem dX8_takeFrom_69 : decode cX8_takeFrom 69 = .ok (.aload_n 1, 1) := by decide +kernel
theorem dX8_takeFrom_70 : decode cX8_takeFrom 70 = .ok (.getfield 22, 3) := by decide +kernel
theorem dX8_takeFrom_73 : decode cX8_takeFrom 73 = .ok (.aload_n 0, 1) := by decide +kernel
theorem dX8_takeFrom_74 : decode cX8_takeFrom 74 = .ok (.getfield 22, 3) := by decide +kernel
theorem dX8_takeFrom_77 : decode cX8_takeFrom 77 = .ok (.invokestatic 87, 3) := by decide +kernel
theorem dX8_takeFrom_80 : decode cX8_takeFrom 80 = .ok (.aload_n 1, 1) := by decide +kernel
theorem dX8_takeFrom_81 : decode cX8_takeFrom 81 = .ok (.getfield 25, 3) := by decide +kernel
theorem dX8_takeFrom_84 : decode cX8_takeFrom 84 = .ok (.aload_n 0, 1) := by decide +kernel
theorem dX8_takeFrom_85 : decode cX8_takeFrom 85 = .ok (.getfield 25, 3) := by decide +kernel
theorem dX8_takeFrom_88 : decode cX8_takeFrom 88 = .ok (.invokestatic 87, 3) := by decide +kernel
theorem dX8_takeFrom_91 : decode cX8_takeFrom 91 = .ok (.aload_n 1, 1) := by decide +kernel
theorem dX8_takeFrom_92 : decode cX8_takeFrom 92 = .ok (.getfield 28, 3) := by decide +kernel
theorem dX8_takeFrom_95 : decode cX8_takeFrom 95 = .ok (.aload_n 0, 1) := by decide +kernel
theorem dX8_takeFrom_96 : decode cX8_takeFrom 96 = .ok (.getfield 28, 3) := by decide +kernel
theorem dX8_takeFrom_99 : decode cX8_takeFrom 99 = .ok (.invokestatic 87, 3) := by decide +kernel
theorem dX8_takeFrom_102 : decode cX8_takeFrom 102 = .ok (.aload_n 1, 1) := by decide +kernel
theorem dX8_takeFrom_103 : decode cX8_takeFrom 103 = .ok (.getfield 31, 3) := by decide +kernel
theorem dX8_takeFrom_106 : decode cX8_takeFrom 106 = .ok (.aload_n 0, 1) := by decide +kernel
theorem dX8_takeFrom_107 : decode cX8_takeFrom 107 = .ok (.getfield 31, 3) := by decide +kernel
theorem dX8_takeFrom_110 : decode cX8_takeFrom 110 = .ok (.invokestatic 87, 3) := by decide +kernel
theorem dX8_takeFrom_113 : decode cX8_takeFrom 113 = .ok (.aload_n 1, 1) := by decide +kernel
theorem dX8_takeFrom_114 : decode cX8_takeFrom 114 = .ok (.getfield 34, 3) := by decide +kernel
theorem dX8_takeFrom_117 : decode cX8_takeFrom 117 = .ok (.aload_n 0, 1) := by decide +kernel
theorem dX8_takeFrom_118 : decode cX8_takeFrom 118 = .ok (.getfield 34, 3) := by decide +kernel
theorem dX8_takeFrom_121 : decode cX8_takeFrom 121 = .ok (.invokestatic 87, 3) := by decide +kernel
theorem dX8_takeFrom_124 : decode cX8_takeFrom 124 = .ok (.aload_n 1, 1) := by decide +kernel
theorem dX8_takeFrom_125 : decode cX8_takeFrom 125 = .ok (.getfield 37, 3) := by decide +kernel
theorem dX8_takeFrom_128 : decode cX8_takeFrom 128 = .ok (.aload_n 0, 1) := by decide +kernel
theorem dX8_takeFrom_129 : decode cX8_takeFrom 129 = .ok (.getfield 37, 3) := by decide +kernel
theorem dX8_takeFrom_132 : decode cX8_takeFrom 132 = .ok (.invokestatic 87, 3) := by decide +kernel
theorem dX8_takeFrom_135 : decode cX8_takeFrom 135 = .ok (.aload_n 1, 1) := by decide +kernel
theorem dX8_takeFrom_136 : decode cX8_takeFrom 136 = .ok (.getfield 40, 3) := by decide +kernel
theorem dX8_takeFrom_139 : decode cX8_takeFrom 139 = .ok (.aload_n 0, 1) := by decide +kernel
theorem dX8_takeFrom_140 : decode cX8_takeFrom 140 = .ok (.getfield 40, 3) := by decide +kernel
theorem dX8_takeFrom_143 : decode cX8_takeFrom 143 = .ok (.invokestatic 87, 3) := by decide +kernel
theorem dX8_takeFrom_146 : decode cX8_takeFrom 146 = .ok (.aload_n 1, 1) := by decide +kernel
theorem dX8_takeFrom_147 : decode cX8_takeFrom 147 = .ok (.getfield 43, 3) := by decide +kernel
theorem dX8_takeFrom_150 : decode cX8_takeFrom 150 = .ok (.aload_n 0, 1) := by decide +kernel
theorem dX8_takeFrom_151 : decode cX8_takeFrom 151 = .ok (.getfield 43, 3) := by decide +kernel
theorem dX8_takeFrom_154 : decode cX8_takeFrom 154 = .ok (.invokestatic 87, 3) := by decide +kernel
theorem dX8_takeFrom_157 : decode cX8_takeFrom 157 = .ok (.aload_n 1, 1) := by decide +kernel
theorem dX8_takeFrom_158 : decode cX8_takeFrom 158 = .ok (.getfield 46, 3) := by decide +kernel
theorem dX8_takeFrom_161 : decode cX8_takeFrom 161 = .ok (.aload_n 0, 1) := by decide +kernel
theorem dX8_takeFrom_162 : decode cX8_takeFrom 162 = .ok (.getfield 46, 3) := by decide +kernel
theorem dX8_takeFrom_165 : decode cX8_takeFrom 165 = .ok (.invokestatic 87, 3) := by decide +kernel
theorem dX8_takeFrom_168 : decode cX8_takeFrom 168 = .ok (.aload_n 1, 1) := by decide +kernel
theorem dX8_takeFrom_169 : decode cX8_takeFrom 169 = .ok (.getfield 49, 3) := by decide +kernel
theorem dX8_takeFrom_172 : decode cX8_takeFrom 172 = .ok (.aload_n 0, 1) := by decide +kernel
theorem dX8_takeFrom_173 : decode cX8_takeFrom 173 = .ok (.getfield 49, 3) := by decide +kernel
theorem dX8_takeFrom_176 : decode cX8_takeFrom 176 = .ok (.invokestatic 87, 3) := by decide +kernel
theorem dX8_takeFrom_179 : decode cX8_takeFrom 179 = .ok (.return_, 1) := by decide +kernel
theorem dX8_readCell_0 : decode cX8_readCell 0 = .ok (.aload_n 1, 1) := by decide +kernel
theorem dX8_readCell_1 : decode cX8_readCell 1 = .ok (.iconst 0, 1) := by decide +kernel
theorem dX8_readCell_2 : decode cX8_readCell 2 = .ok (.aload_n 0, 1) := by decide +kernel
theorem dX8_readCell_3 : decode cX8_readCell 3 = .ok (.getfield 59, 3) := by decide +kernel
theorem dX8_readCell_6 : decode cX8_readCell 6 = .ok (.iconst 1, 1) := by decide +kernel
theorem dX8_readCell_7 : decode cX8_readCell 7 = .ok (.isub, 1) := by decide +kernel
theorem dX8_readCell_8 : decode cX8_readCell 8 = .ok (.invokevirtual 146, 3) := by decide +kernel
theorem dX8_readCell_11 : decode cX8_readCell 11 = .ok (.ifCond .ne 5, 3) := by decide +kernel
theorem dX8_readCell_14 : decode cX8_readCell 14 = .ok (.iconst 0, 1) := by decide +kernel
theorem dX8_readCell_15 : decode cX8_readCell 15 = .ok (.ireturn, 1) := by decide +kernel
theorem dX8_readCell_16 : decode cX8_readCell 16 = .ok (.aload_n 1, 1) := by decide +kernel
theorem dX8_readCell_17 : decode cX8_readCell 17 = .ok (.getfield 150, 3) := by decide +kernel
theorem dX8_readCell_20 : decode cX8_readCell 20 = .ok (.istore_n 3, 1) := by decide +kernel
theorem dX8_readCell_21 : decode cX8_readCell 21 = .ok (.aload_n 1, 1) := by decide +kernel
theorem dX8_readCell_22 : decode cX8_readCell 22 = .ok (.invokevirtual 143, 3) := by decide +kernel
theorem dX8_readCell_25 : decode cX8_readCell 25 = .ok (.aload_n 1, 1) := by decide +kernel
theorem dX8_readCell_26 : decode cX8_readCell 26 = .ok (.iconst 0, 1) := by decide +kernel
theorem dX8_readCell_27 : decode cX8_readCell 27 = .ok (.aload_n 0, 1) := by decide +kernel
theorem dX8_readCell_28 : decode cX8_readCell 28 = .ok (.getfield 62, 3) := by decide +kernel
theorem dX8_readCell_31 : decode cX8_readCell 31 = .ok (.iconst 1, 1) := by decide +kernel
theorem dX8_readCell_32 : decode cX8_readCell 32 = .ok (.isub, 1) := by decide +kernel
theorem dX8_readCell_33 : decode cX8_readCell 33 = .ok (.invokevirtual 146, 3) := by decide +kernel
theorem dX8_readCell_36 : decode cX8_readCell 36 = .ok (.ifCond .ne 5, 3) := by decide +kernel
theorem dX8_readCell_39 : decode cX8_readCell 39 = .ok (.iconst 0, 1) := by decide +kernel
theorem dX8_readCell_40 : decode cX8_readCell 40 = .ok (.ireturn, 1) := by decide +kernel
theorem dX8_readCell_41 : decode cX8_readCell 41 = .ok (.aload_n 0, 1) := by decide +kernel
theorem dX8_readCell_42 : decode cX8_readCell 42 = .ok (.bipush 10, 2) := by decide +kernel
theorem dX8_readCell_44 : decode cX8_readCell 44 = .ok (.aload_n 1, 1) := by decide +kernel
theorem dX8_readCell_45 : decode cX8_readCell 45 = .ok (.getfield 150, 3) := by decide +kernel
theorem dX8_readCell_48 : decode cX8_readCell 48 = .ok (.imul, 1) := by decide +kernel
theorem dX8_readCell_49 : decode cX8_readCell 49 = .ok (.iload_n 3, 1) := by decide +kernel
theorem dX8_readCell_50 : decode cX8_readCell 50 = .ok (.iadd, 1) := by decide +kernel
theorem dX8_readCell_51 : decode cX8_readCell 51 = .ok (.putfield 168, 3) := by decide +kernel
theorem dX8_readCell_54 : decode cX8_readCell 54 = .ok (.iload_n 2, 1) := by decide +kernel
theorem dX8_readCell_55 : decode cX8_readCell 55 = .ok (.iconst (-1), 1) := by decide +kernel
theorem dX8_readCell_56 : decode cX8_readCell 56 = .ok (.if_icmp .eq 21, 3) := by decide +kernel
theorem dX8_readCell_59 : decode cX8_readCell 59 = .ok (.aload_n 0, 1) := by decide +kernel
theorem dX8_readCell_60 : decode cX8_readCell 60 = .ok (.iload_n 2, 1) := by decide +kernel
theorem dX8_readCell_61 : decode cX8_readCell 61 = .ok (.aload_n 0, 1) := by decide +kernel
theorem dX8_readCell_62 : decode cX8_readCell 62 = .ok (.getfield 168, 3) := by decide +kernel
theorem dX8_readCell_65 : decode cX8_readCell 65 = .ok (.invokevirtual 179, 3) := by decide +kernel
theorem dX8_readCell_68 : decode cX8_readCell 68 = .ok (.ifCond .eq 9, 3) := by decide +kernel
theorem dX8_readCell_71 : decode cX8_readCell 71 = .ok (.aload_n 1, 1) := by decide +kernel
theorem dX8_readCell_72 : decode cX8_readCell 72 = .ok (.iconst 3, 1) := by decide +kernel
theorem dX8_readCell_73 : decode cX8_readCell 73 = .ok (.invokevirtual 118, 3) := by decide +kernel
theorem dX8_readCell_76 : decode cX8_readCell 76 = .ok (.ireturn, 1) := by decide +kernel
theorem dX8_readCell_77 : decode cX8_readCell 77 = .ok (.aload_n 1, 1) := by decide +kernel
theorem dX8_readCell_78 : decode cX8_readCell 78 = .ok (.invokevirtual 143, 3) := by decide +kernel
theorem dX8_readCell_81 : decode cX8_readCell 81 = .ok (.iconst 1, 1) := by decide +kernel
theorem dX8_readCell_82 : decode cX8_readCell 82 = .ok (.ireturn, 1) := by decide +kernel
theorem dX8_readCart_0 : decode cX8_readCart 0 = .ok (.aload_n 0, 1) := by decide +kernel
theorem dX8_readCart_1 : decode cX8_readCart 1 = .ok (.getfield 68, 3) := by decide +kernel
theorem dX8_readCart_4 : decode cX8_readCart 4 = .ok (.bipush 20, 2) := by decide +kernel
theorem dX8_readCart_6 : decode cX8_readCart 6 = .ok (.if_icmp .lt 9, 3) := by decide +kernel
theorem dX8_readCart_9 : decode cX8_readCart 9 = .ok (.aload_n 1, 1) := by decide +kernel
theorem dX8_readCart_10 : decode cX8_readCart 10 = .ok (.iconst 4, 1) := by decide +kernel
theorem dX8_readCart_11 : decode cX8_readCart 11 = .ok (.invokevirtual 118, 3) := by decide +kernel
theorem dX8_readCart_14 : decode cX8_readCart 14 = .ok (.ireturn, 1) := by decide +kernel
theorem dX8_readCart_15 : decode cX8_readCart 15 = .ok (.aload_n 1, 1) := by decide +kernel
theorem dX8_readCart_16 : decode cX8_readCart 16 = .ok (.invokevirtual 143, 3) := by decide +kernel
theorem dX8_readCart_19 : decode cX8_readCart 19 = .ok (.aload_n 1, 1) := by decide +kernel
theorem dX8_readCart_20 : decode cX8_readCart 20 = .ok (.iconst 0, 1) := by decide +kernel
theorem dX8_readCart_21 : decode cX8_readCart 21 = .ok (.sipush 239, 3) := by decide +kernel
theorem dX8_readCart_24 : decode cX8_readCart 24 = .ok (.aload_n 0, 1) := by decide +kernel
theorem dX8_readCart_25 : decode cX8_readCart 25 = .ok (.getfield 28, 3) := by decide +kernel
theorem dX8_readCart_28 : decode cX8_readCart 28 = .ok (.aload_n 0, 1) := by decide +kernel
theorem dX8_readCart_29 : decode cX8_readCart 29 = .ok (.getfield 68, 3) := by decide +kernel
theorem dX8_readCart_32 : decode cX8_readCart 32 = .ok (.invokevirtual 171, 3) := by decide +kernel
theorem dX8_readCart_35 : decode cX8_readCart 35 = .ok (.ifCond .eq 12, 3) := by decide +kernel
theorem dX8_readCart_38 : decode cX8_readCart 38 = .ok (.aload_n 0, 1) := by decide +kernel
theorem dX8_readCart_39 : decode cX8_readCart 39 = .ok (.aload_n 1, 1) := by decide +kernel
theorem dX8_readCart_40 : decode cX8_readCart 40 = .ok (.iconst (-1), 1) := by decide +kernel
theorem dX8_readCart_41 : decode cX8_readCart 41 = .ok (.invokevirtual 165, 3) := by decide +kernel
theorem dX8_readCart_44 : decode cX8_readCart 44 = .ok (.ifCond .ne 5, 3) := by decide +kernel
theorem dX8_readCart_47 : decode cX8_readCart 47 = .ok (.iconst 0, 1) := by decide +kernel
theorem dX8_readCart_48 : decode cX8_readCart 48 = .ok (.ireturn, 1) := by decide +kernel
theorem dX8_readCart_49 : decode cX8_readCart 49 = .ok (.aload_n 0, 1) := by decide +kernel
theorem dX8_readCart_50 : decode cX8_readCart 50 = .ok (.getfield 31, 3) := by decide +kernel
theorem dX8_readCart_53 : decode cX8_readCart 53 = .ok (.aload_n 0, 1) := by decide +kernel
theorem dX8_readCart_54 : decode cX8_readCart 54 = .ok (.getfield 68, 3) := by decide +kernel
theorem dX8_readCart_57 : decode cX8_readCart 57 = .ok (.aload_n 0, 1) := by decide +kernel
theorem dX8_readCart_58 : decode cX8_readCart 58 = .ok (.getfield 168, 3) := by decide +kernel
theorem dX8_readCart_61 : decode cX8_readCart 61 = .ok (.iastore, 1) := by decide +kernel
theorem dX8_readCart_62 : decode cX8_readCart 62 = .ok (.aload_n 1, 1) := by decide +kernel
theorem dX8_readCart_63 : decode cX8_readCart 63 = .ok (.iconst 0, 1) := by decide +kernel
theorem dX8_readCart_64 : decode cX8_readCart 64 = .ok (.sipush 400, 3) := by decide +kernel
theorem dX8_readCart_67 : decode cX8_readCart 67 = .ok (.aload_n 0, 1) := by decide +kernel
theorem dX8_readCart_68 : decode cX8_readCart 68 = .ok (.getfield 34, 3) := by decide +kernel
theorem dX8_readCart_71 : decode cX8_readCart 71 = .ok (.aload_n 0, 1) := by decide +kernel
theorem dX8_readCart_72 : decode cX8_readCart 72 = .ok (.getfield 68, 3) := by decide +kernel
theorem dX8_readCart_75 : decode cX8_readCart 75 = .ok (.invokevirtual 171, 3) := by decide +kernel
theorem dX8_readCart_78 : decode cX8_readCart 78 = .ok (.ifCond .eq 21, 3) := by decide +kernel
theorem dX8_readCart_81 : decode cX8_readCart 81 = .ok (.aload_n 1, 1) := by decide +kernel
theorem dX8_readCart_82 : decode cX8_readCart 82 = .ok (.iconst 0, 1) := by decide +kernel
theorem dX8_readCart_83 : decode cX8_readCart 83 = .ok (.bipush 9, 2) := by decide +kernel
theorem dX8_readCart_85 : decode cX8_readCart 85 = .ok (.aload_n 0, 1) := by decide +kernel
theorem dX8_readCart_86 : decode cX8_readCart 86 = .ok (.getfield 37, 3) := by decide +kernel
theorem dX8_readCart_89 : decode cX8_readCart 89 = .ok (.aload_n 0, 1) := by decide +kernel
theorem dX8_readCart_90 : decode cX8_readCart 90 = .ok (.getfield 68, 3) := by decide +kernel
theorem dX8_readCart_93 : decode cX8_readCart 93 = .ok (.invokevirtual 171, 3) := by decide +kernel
theorem dX8_readCart_96 : decode cX8_readCart 96 = .ok (.ifCond .ne 5, 3) := by decide +kernel
theorem dX8_readCart_99 : decode cX8_readCart 99 = .ok (.iconst 0, 1) := by decide +kernel
theorem dX8_readCart_100 : decode cX8_readCart 100 = .ok (.ireturn, 1) := by decide +kernel
theorem dX8_readCart_101 : decode cX8_readCart 101 = .ok (.aload_n 0, 1) := by decide +kernel
theorem dX8_readCart_102 : decode cX8_readCart 102 = .ok (.dup, 1) := by decide +kernel
theorem dX8_readCart_103 : decode cX8_readCart 103 = .ok (.getfield 68, 3) := by decide +kernel
theorem dX8_readCart_106 : decode cX8_readCart 106 = .ok (.iconst 1, 1) := by decide +kernel
theorem dX8_readCart_107 : decode cX8_readCart 107 = .ok (.iadd, 1) := by decide +kernel
theorem dX8_readCart_108 : decode cX8_readCart 108 = .ok (.putfield 68, 3) := by decide +kernel
theorem dX8_readCart_111 : decode cX8_readCart 111 = .ok (.iconst 1, 1) := by decide +kernel
theorem dX8_readCart_112 : decode cX8_readCart 112 = .ok (.ireturn, 1) := by decide +kernel
theorem dX8_readLaw_0 : decode cX8_readLaw 0 = .ok (.aload_n 0, 1) := by decide +kernel
theorem dX8_readLaw_1 : decode cX8_readLaw 1 = .ok (.getfield 71, 3) := by decide +kernel
theorem dX8_readLaw_4 : decode cX8_readLaw 4 = .ok (.ifCond .eq 9, 3) := by decide +kernel
theorem dX8_readLaw_7 : decode cX8_readLaw 7 = .ok (.aload_n 1, 1) := by decide +kernel
theorem dX8_readLaw_8 : decode cX8_readLaw 8 = .ok (.iconst 3, 1) := by decide +kernel
theorem dX8_readLaw_9 : decode cX8_readLaw 9 = .ok (.invokevirtual 118, 3) := by decide +kernel
theorem dX8_readLaw_12 : decode cX8_readLaw 12 = .ok (.ireturn, 1) := by decide +kernel
theorem dX8_readLaw_13 : decode cX8_readLaw 13 = .ok (.aload_n 1, 1) := by decide +kernel
theorem dX8_readLaw_14 : decode cX8_readLaw 14 = .ok (.invokevirtual 143, 3) := by decide +kernel
theorem dX8_readLaw_17 : decode cX8_readLaw 17 = .ok (.aload_n 0, 1) := by decide +kernel
theorem dX8_readLaw_18 : decode cX8_readLaw 18 = .ok (.iconst 1, 1) := by decide +kernel
theorem dX8_readLaw_19 : decode cX8_readLaw 19 = .ok (.putfield 71, 3) := by decide +kernel
theorem dX8_readLaw_22 : decode cX8_readLaw 22 = .ok (.iconst 0, 1) := by decide +kernel
theorem dX8_readLaw_23 : decode cX8_readLaw 23 = .ok (.istore_n 2, 1) := by decide +kernel
theorem dX8_readLaw_24 : decode cX8_readLaw 24 = .ok (.iload_n 2, 1) := by decide +kernel
theorem dX8_readLaw_25 : decode cX8_readLaw 25 = .ok (.aload_n 0, 1) := by decide +kernel
theorem dX8_readLaw_26 : decode cX8_readLaw 26 = .ok (.getfield 49, 3) := by decide +kernel
theorem dX8_readLaw_29 : decode cX8_readLaw 29 = .ok (.arraylength, 1) := by decide +kernel
theorem dX8_readLaw_30 : decode cX8_readLaw 30 = .ok (.if_icmp .ge 26, 3) := by decide +kernel
theorem dX8_readLaw_33 : decode cX8_readLaw 33 = .ok (.aload_n 1, 1) := by decide +kernel
theorem dX8_readLaw_34 : decode cX8_readLaw 34 = .ok (.iconst 0, 1) := by decide +kernel
theorem dX8_readLaw_35 : decode cX8_readLaw 35 = .ok (.bipush 9, 2) := by decide +kernel
theorem dX8_readLaw_37 : decode cX8_readLaw 37 = .ok (.aload_n 0, 1) := by decide +kernel
theorem dX8_readLaw_38 : decode cX8_readLaw 38 = .ok (.getfield 49, 3) := by decide +kernel
theorem dX8_readLaw_41 : decode cX8_readLaw 41 = .ok (.iload_n 2, 1) := by decide +kernel
theorem dX8_readLaw_42 : decode cX8_readLaw 42 = .ok (.invokevirtual 171, 3) := by decide +kernel
theorem dX8_readLaw_45 : decode cX8_readLaw 45 = .ok (.ifCond .ne 5, 3) := by decide +kernel
theorem dX8_readLaw_48 : decode cX8_readLaw 48 = .ok (.iconst 0, 1) := by decide +kernel
theorem dX8_readLaw_49 : decode cX8_readLaw 49 = .ok (.ireturn, 1) := by decide +kernel
theorem dX8_readLaw_50 : decode cX8_readLaw 50 = .ok (.iinc 2 1, 3) := by decide +kernel
theorem dX8_readLaw_53 : decode cX8_readLaw 53 = .ok (.goto (-29), 3) := by decide +kernel
theorem dX8_readLaw_56 : decode cX8_readLaw 56 = .ok (.iconst 1, 1) := by decide +kernel
theorem dX8_readLaw_57 : decode cX8_readLaw 57 = .ok (.ireturn, 1) := by decide +kernel
theorem dX8_putOn_0 : decode cX8_putOn 0 = .ok (.aload_n 0, 1) := by decide +kernel
theorem dX8_putOn_1 : decode cX8_putOn 1 = .ok (.getfield 43, 3) := by decide +kernel
theorem dX8_putOn_4 : decode cX8_putOn 4 = .ok (.iload_n 2, 1) := by decide +kernel
theorem dX8_putOn_5 : decode cX8_putOn 5 = .ok (.dup2, 1) := by decide +kernel
theorem dX8_putOn_6 : decode cX8_putOn 6 = .ok (.iaload, 1) := by decide +kernel
theorem dX8_putOn_7 : decode cX8_putOn 7 = .ok (.iconst 1, 1) := by decide +kernel
theorem dX8_putOn_8 : decode cX8_putOn 8 = .ok (.iload_n 1, 1) := by decide +kernel
theorem dX8_putOn_9 : decode cX8_putOn 9 = .ok (.ishl, 1) := by decide +kernel
theorem dX8_putOn_10 : decode cX8_putOn 10 = .ok (.ior, 1) := by decide +kernel
theorem dX8_putOn_11 : decode cX8_putOn 11 = .ok (.iastore, 1) := by decide +kernel
theorem dX8_putOn_12 : decode cX8_putOn 12 = .ok (.aload_n 0, 1) := by decide +kernel
theorem dX8_putOn_13 : decode cX8_putOn 13 = .ok (.getfield 40, 3) := by decide +kernel
theorem dX8_putOn_16 : decode cX8_putOn 16 = .ok (.iload_n 1, 1) := by decide +kernel
theorem dX8_putOn_17 : decode cX8_putOn 17 = .ok (.dup2, 1) := by decide +kernel
theorem dX8_putOn_18 : decode cX8_putOn 18 = .ok (.iaload, 1) := by decide +kernel
theorem dX8_putOn_19 : decode cX8_putOn 19 = .ok (.iconst 1, 1) := by decide +kernel
theorem dX8_putOn_20 : decode cX8_putOn 20 = .ok (.iadd, 1) := by decide +kernel
theorem dX8_putOn_21 : decode cX8_putOn 21 = .ok (.iastore, 1) := by decide +kernel
theorem dX8_putOn_22 : decode cX8_putOn 22 = .ok (.return_, 1) := by decide +kernel
theorem dX8_readQuarter_0 : decode cX8_readQuarter 0 = .ok (.aload_n 0, 1) := by decide +kernel
theorem dX8_readQuarter_1 : decode cX8_readQuarter 1 = .ok (.getfield 65, 3) := by decide +kernel
theorem dX8_readQuarter_4 : decode cX8_readQuarter 4 = .ok (.bipush 9, 2) := by decide +kernel
theorem dX8_readQuarter_6 : decode cX8_readQuarter 6 = .ok (.if_icmp .lt 9, 3) := by decide +kernel
theorem dX8_readQuarter_9 : decode cX8_readQuarter 9 = .ok (.aload_n 1, 1) := by decide +kernel
theorem dX8_readQuarter_10 : decode cX8_readQuarter 10 = .ok (.iconst 4, 1) := by decide +kernel
theorem dX8_readQuarter_11 : decode cX8_readQuarter 11 = .ok (.invokevirtual 118, 3) := by decide +kernel
theorem dX8_readQuarter_14 : decode cX8_readQuarter 14 = .ok (.ireturn, 1) := by decide +kernel
theorem dX8_readQuarter_15 : decode cX8_readQuarter 15 = .ok (.aload_n 1, 1) := by decide +kernel
theorem dX8_readQuarter_16 : decode cX8_readQuarter 16 = .ok (.invokevirtual 143, 3) := by decide +kernel
theorem dX8_readQuarter_19 : decode cX8_readQuarter 19 = .ok (.aload_n 1, 1) := by decide +kernel
theorem dX8_readQuarter_20 : decode cX8_readQuarter 20 = .ok (.invokevirtual 153, 3) := by decide +kernel
theorem dX8_readQuarter_23 : decode cX8_readQuarter 23 = .ok (.ifCond .ne 9, 3) := by decide +kernel
theorem dX8_readQuarter_26 : decode cX8_readQuarter 26 = .ok (.aload_n 1, 1) := by decide +kernel
theorem dX8_readQuarter_27 : decode cX8_readQuarter 27 = .ok (.iconst 1, 1) := by decide +kernel
theorem dX8_readQuarter_28 : decode cX8_readQuarter 28 = .ok (.invokevirtual 118, 3) := by decide +kernel
theorem dX8_readQuarter_31 : decode cX8_readQuarter 31 = .ok (.ireturn, 1) := by decide +kernel
theorem dX8_readQuarter_32 : decode cX8_readQuarter 32 = .ok (.aload_n 0, 1) := by decide +kernel
theorem dX8_readQuarter_33 : decode cX8_readQuarter 33 = .ok (.aload_n 1, 1) := by decide +kernel
theorem dX8_readQuarter_34 : decode cX8_readQuarter 34 = .ok (.getfield 157, 3) := by decide +kernel
theorem dX8_readQuarter_37 : decode cX8_readQuarter 37 = .ok (.invokevirtual 161, 3) := by decide +kernel
theorem dX8_readQuarter_40 : decode cX8_readQuarter 40 = .ok (.iconst (-1), 1) := by decide +kernel
theorem dX8_readQuarter_41 : decode cX8_readQuarter 41 = .ok (.if_icmp .eq 9, 3) := by decide +kernel
theorem dX8_readQuarter_44 : decode cX8_readQuarter 44 = .ok (.aload_n 1, 1) := by decide +kernel
theorem dX8_readQuarter_45 : decode cX8_readQuarter 45 = .ok (.iconst 3, 1) := by decide +kernel
theorem dX8_readQuarter_46 : decode cX8_readQuarter 46 = .ok (.invokevirtual 118, 3) := by decide +kernel
theorem dX8_readQuarter_49 : decode cX8_readQuarter 49 = .ok (.ireturn, 1) := by decide +kernel
theorem dX8_readQuarter_50 : decode cX8_readQuarter 50 = .ok (.aload_n 0, 1) := by decide +kernel
theorem dX8_readQuarter_51 : decode cX8_readQuarter 51 = .ok (.getfield 9, 3) := by decide +kernel
theorem dX8_readQuarter_54 : decode cX8_readQuarter 54 = .ok (.aload_n 0, 1) := by decide +kernel
theorem dX8_readQuarter_55 : decode cX8_readQuarter 55 = .ok (.getfield 65, 3) := by decide +kernel
theorem dX8_readQuarter_58 : decode cX8_readQuarter 58 = .ok (.aload_n 1, 1) := by decide +kernel
theorem dX8_readQuarter_59 : decode cX8_readQuarter 59 = .ok (.getfield 157, 3) := by decide +kernel
theorem dX8_readQuarter_62 : decode cX8_readQuarter 62 = .ok (.lastore, 1) := by decide +kernel
theorem dX8_readQuarter_63 : decode cX8_readQuarter 63 = .ok (.aload_n 1, 1) := by decide +kernel
theorem dX8_readQuarter_64 : decode cX8_readQuarter 64 = .ok (.invokevirtual 143, 3) := by decide +kernel
theorem dX8_readQuarter_67 : decode cX8_readQuarter 67 = .ok (.aload_n 0, 1) := by decide +kernel
theorem dX8_readQuarter_68 : decode cX8_readQuarter 68 = .ok (.aload_n 1, 1) := by decide +kernel
theorem dX8_readQuarter_69 : decode cX8_readQuarter 69 = .ok (.iconst 3, 1) := by decide +kernel
theorem dX8_readQuarter_70 : decode cX8_readQuarter 70 = .ok (.invokevirtual 165, 3) := by decide +kernel
theorem dX8_readQuarter_73 : decode cX8_readQuarter 73 = .ok (.ifCond .ne 5, 3) := by decide +kernel
theorem dX8_readQuarter_76 : decode cX8_readQuarter 76 = .ok (.iconst 0, 1) := by decide +kernel
theorem dX8_readQuarter_77 : decode cX8_readQuarter 77 = .ok (.ireturn, 1) := by decide +kernel
theorem dX8_readQuarter_78 : decode cX8_readQuarter 78 = .ok (.aload_n 0, 1) := by decide +kernel
theorem dX8_readQuarter_79 : decode cX8_readQuarter 79 = .ok (.getfield 15, 3) := by decide +kernel
theorem dX8_readQuarter_82 : decode cX8_readQuarter 82 = .ok (.aload_n 0, 1) := by decide +kernel
theorem dX8_readQuarter_83 : decode cX8_readQuarter 83 = .ok (.getfield 65, 3) := by decide +kernel
theorem dX8_readQuarter_86 : decode cX8_readQuarter 86 = .ok (.aload_n 0, 1) := by decide +kernel
theorem dX8_readQuarter_87 : decode cX8_readQuarter 87 = .ok (.getfield 168, 3) := by decide +kernel
theorem dX8_readQuarter_90 : decode cX8_readQuarter 90 = .ok (.iastore, 1) := by decide +kernel
theorem dX8_readQuarter_91 : decode cX8_readQuarter 91 = .ok (.aload_n 1, 1) := by decide +kernel
theorem dX8_readQuarter_92 : decode cX8_readQuarter 92 = .ok (.iconst 0, 1) := by decide +kernel
theorem dX8_readQuarter_93 : decode cX8_readQuarter 93 = .ok (.sipush 400, 3) := by decide +kernel
theorem dX8_readQuarter_96 : decode cX8_readQuarter 96 = .ok (.aload_n 0, 1) := by decide +kernel
theorem dX8_readQuarter_97 : decode cX8_readQuarter 97 = .ok (.getfield 19, 3) := by decide +kernel
theorem dX8_readQuarter_100 : decode cX8_readQuarter 100 = .ok (.aload_n 0, 1) := by decide +kernel
theorem dX8_readQuarter_101 : decode cX8_readQuarter 101 = .ok (.getfield 65, 3) := by decide +kernel
theorem dX8_readQuarter_104 : decode cX8_readQuarter 104 = .ok (.invokevirtual 171, 3) := by decide +kernel
theorem dX8_readQuarter_107 : decode cX8_readQuarter 107 = .ok (.ifCond .eq 21, 3) := by decide +kernel
theorem dX8_readQuarter_110 : decode cX8_readQuarter 110 = .ok (.aload_n 1, 1) := by decide +kernel
theorem dX8_readQuarter_111 : decode cX8_readQuarter 111 = .ok (.iconst 1, 1) := by decide +kernel
theorem dX8_readQuarter_112 : decode cX8_readQuarter 112 = .ok (.bipush 9, 2) := by decide +kernel
theorem dX8_readQuarter_114 : decode cX8_readQuarter 114 = .ok (.aload_n 0, 1) := by decide +kernel
theorem dX8_readQuarter_115 : decode cX8_readQuarter 115 = .ok (.getfield 22, 3) := by decide +kernel
theorem dX8_readQuarter_118 : decode cX8_readQuarter 118 = .ok (.aload_n 0, 1) := by decide +kernel
theorem dX8_readQuarter_119 : decode cX8_readQuarter 119 = .ok (.getfield 65, 3) := by decide +kernel
theorem dX8_readQuarter_122 : decode cX8_readQuarter 122 = .ok (.invokevirtual 171, 3) := by decide +kernel
theorem dX8_readQuarter_125 : decode cX8_readQuarter 125 = .ok (.ifCond .ne 5, 3) := by decide +kernel
theorem dX8_readQuarter_128 : decode cX8_readQuarter 128 = .ok (.iconst 0, 1) := by decide +kernel
theorem dX8_readQuarter_129 : decode cX8_readQuarter 129 = .ok (.ireturn, 1) := by decide +kernel
theorem dX8_readQuarter_130 : decode cX8_readQuarter 130 = .ok (.aload_n 0, 1) := by decide +kernel
theorem dX8_readQuarter_131 : decode cX8_readQuarter 131 = .ok (.iconst 3, 1) := by decide +kernel
theorem dX8_readQuarter_132 : decode cX8_readQuarter 132 = .ok (.aload_n 0, 1) := by decide +kernel
theorem dX8_readQuarter_133 : decode cX8_readQuarter 133 = .ok (.getfield 168, 3) := by decide +kernel
theorem dX8_readQuarter_136 : decode cX8_readQuarter 136 = .ok (.invokevirtual 175, 3) := by decide +kernel
theorem dX8_readQuarter_139 : decode cX8_readQuarter 139 = .ok (.aload_n 0, 1) := by decide +kernel
theorem dX8_readQuarter_140 : decode cX8_readQuarter 140 = .ok (.getfield 46, 3) := by decide +kernel
theorem dX8_readQuarter_143 : decode cX8_readQuarter 143 = .ok (.aload_n 0, 1) := by decide +kernel
theorem dX8_readQuarter_144 : decode cX8_readQuarter 144 = .ok (.getfield 168, 3) := by decide +kernel
theorem dX8_readQuarter_147 : decode cX8_readQuarter 147 = .ok (.aload_n 0, 1) := by decide +kernel
theorem dX8_readQuarter_148 : decode cX8_readQuarter 148 = .ok (.getfield 65, 3) := by decide +kernel
theorem dX8_readQuarter_151 : decode cX8_readQuarter 151 = .ok (.iastore, 1) := by decide +kernel
theorem dX8_readQuarter_152 : decode cX8_readQuarter 152 = .ok (.aload_n 0, 1) := by decide +kernel
theorem dX8_readQuarter_153 : decode cX8_readQuarter 153 = .ok (.dup, 1) := by decide +kernel
theorem dX8_readQuarter_154 : decode cX8_readQuarter 154 = .ok (.getfield 65, 3) := by decide +kernel
theorem dX8_readQuarter_157 : decode cX8_readQuarter 157 = .ok (.iconst 1, 1) := by decide +kernel
theorem dX8_readQuarter_158 : decode cX8_readQuarter 158 = .ok (.iadd, 1) := by decide +kernel
theorem dX8_readQuarter_159 : decode cX8_readQuarter 159 = .ok (.putfield 65, 3) := by decide +kernel
theorem dX8_readQuarter_162 : decode cX8_readQuarter 162 = .ok (.iconst 1, 1) := by decide +kernel
theorem dX8_readQuarter_163 : decode cX8_readQuarter 163 = .ok (.ireturn, 1) := by decide +kernel
theorem dX8_readSpot_0 : decode cX8_readSpot 0 = .ok (.aload_n 1, 1) := by decide +kernel
theorem dX8_readSpot_1 : decode cX8_readSpot 1 = .ok (.invokevirtual 143, 3) := by decide +kernel
theorem dX8_readSpot_4 : decode cX8_readSpot 4 = .ok (.aload_n 1, 1) := by decide +kernel
theorem dX8_readSpot_5 : decode cX8_readSpot 5 = .ok (.invokevirtual 153, 3) := by decide +kernel
theorem dX8_readSpot_8 : decode cX8_readSpot 8 = .ok (.ifCond .ne 9, 3) := by decide +kernel
theorem dX8_readSpot_11 : decode cX8_readSpot 11 = .ok (.aload_n 1, 1) := by decide +kernel
theorem dX8_readSpot_12 : decode cX8_readSpot 12 = .ok (.iconst 1, 1) := by decide +kernel
theorem dX8_readSpot_13 : decode cX8_readSpot 13 = .ok (.invokevirtual 118, 3) := by decide +kernel
theorem dX8_readSpot_16 : decode cX8_readSpot 16 = .ok (.ireturn, 1) := by decide +kernel
theorem dX8_readSpot_17 : decode cX8_readSpot 17 = .ok (.aload_n 0, 1) := by decide +kernel
theorem dX8_readSpot_18 : decode cX8_readSpot 18 = .ok (.aload_n 1, 1) := by decide +kernel
theorem dX8_readSpot_19 : decode cX8_readSpot 19 = .ok (.getfield 157, 3) := by decide +kernel
theorem dX8_readSpot_22 : decode cX8_readSpot 22 = .ok (.invokevirtual 161, 3) := by decide +kernel
theorem dX8_readSpot_25 : decode cX8_readSpot 25 = .ok (.istore_n 2, 1) := by decide +kernel
theorem dX8_readSpot_26 : decode cX8_readSpot 26 = .ok (.iload_n 2, 1) := by decide +kernel
theorem dX8_readSpot_27 : decode cX8_readSpot 27 = .ok (.iconst (-1), 1) := by decide +kernel
theorem dX8_readSpot_28 : decode cX8_readSpot 28 = .ok (.if_icmp .eq 13, 3) := by decide +kernel
theorem dX8_readSpot_31 : decode cX8_readSpot 31 = .ok (.aload_n 0, 1) := by decide +kernel
theorem dX8_readSpot_32 : decode cX8_readSpot 32 = .ok (.getfield 25, 3) := by decide +kernel
theorem dX8_readSpot_35 : decode cX8_readSpot 35 = .ok (.iload_n 2, 1) := by decide +kernel
theorem dX8_readSpot_36 : decode cX8_readSpot 36 = .ok (.iaload, 1) := by decide +kernel
theorem dX8_readSpot_37 : decode cX8_readSpot 37 = .ok (.iconst (-1), 1) := by decide +kernel
theorem dX8_readSpot_38 : decode cX8_readSpot 38 = .ok (.if_icmp .eq 9, 3) := by decide +kernel
theorem dX8_readSpot_41 : decode cX8_readSpot 41 = .ok (.aload_n 1, 1) := by decide +kernel
theorem dX8_readSpot_42 : decode cX8_readSpot 42 = .ok (.iconst 3, 1) := by decide +kernel
theorem dX8_readSpot_43 : decode cX8_readSpot 43 = .ok (.invokevirtual 118, 3) := by decide +kernel
theorem dX8_readSpot_46 : decode cX8_readSpot 46 = .ok (.ireturn, 1) := by decide +kernel
theorem dX8_readSpot_47 : decode cX8_readSpot 47 = .ok (.aload_n 1, 1) := by decide +kernel
theorem dX8_readSpot_48 : decode cX8_readSpot 48 = .ok (.invokevirtual 143, 3) := by decide +kernel
theorem dX8_readSpot_51 : decode cX8_readSpot 51 = .ok (.aload_n 0, 1) := by decide +kernel
theorem dX8_readSpot_52 : decode cX8_readSpot 52 = .ok (.aload_n 1, 1) := by decide +kernel
theorem dX8_readSpot_53 : decode cX8_readSpot 53 = .ok (.iconst (-1), 1) := by decide +kernel
theorem dX8_readSpot_54 : decode cX8_readSpot 54 = .ok (.invokevirtual 165, 3) := by decide +kernel
theorem dX8_readSpot_57 : decode cX8_readSpot 57 = .ok (.ifCond .ne 5, 3) := by decide +kernel
theorem dX8_readSpot_60 : decode cX8_readSpot 60 = .ok (.iconst 0, 1) := by decide +kernel
theorem dX8_readSpot_61 : decode cX8_readSpot 61 = .ok (.ireturn, 1) := by decide +kernel
theorem dX8_readSpot_62 : decode cX8_readSpot 62 = .ok (.aload_n 0, 1) := by decide +kernel
theorem dX8_readSpot_63 : decode cX8_readSpot 63 = .ok (.getfield 25, 3) := by decide +kernel
theorem dX8_readSpot_66 : decode cX8_readSpot 66 = .ok (.iload_n 2, 1) := by decide +kernel
theorem dX8_readSpot_67 : decode cX8_readSpot 67 = .ok (.aload_n 0, 1) := by decide +kernel
theorem dX8_readSpot_68 : decode cX8_readSpot 68 = .ok (.getfield 168, 3) := by decide +kernel
theorem dX8_readSpot_71 : decode cX8_readSpot 71 = .ok (.iastore, 1) := by decide +kernel
theorem dX8_readSpot_72 : decode cX8_readSpot 72 = .ok (.iconst 1, 1) := by decide +kernel
theorem dX8_readSpot_73 : decode cX8_readSpot 73 = .ok (.ireturn, 1) := by decide +kernel
theorem dX8_readSquare_0 : decode cX8_readSquare 0 = .ok (.aload_n 0, 1) := by decide +kernel
theorem dX8_readSquare_1 : decode cX8_readSquare 1 = .ok (.getfield 59, 3) := by decide +kernel
theorem dX8_readSquare_4 : decode cX8_readSquare 4 = .ok (.ifCond .le 9, 3) := by decide +kernel
theorem dX8_readSquare_7 : decode cX8_readSquare 7 = .ok (.aload_n 1, 1) := by decide +kernel
theorem dX8_readSquare_8 : decode cX8_readSquare 8 = .ok (.iconst 3, 1) := by decide +kernel
theorem dX8_readSquare_9 : decode cX8_readSquare 9 = .ok (.invokevirtual 118, 3) := by decide +kernel
theorem dX8_readSquare_12 : decode cX8_readSquare 12 = .ok (.ireturn, 1) := by decide +kernel
theorem dX8_readSquare_13 : decode cX8_readSquare 13 = .ok (.aload_n 1, 1) := by decide +kernel
theorem dX8_readSquare_14 : decode cX8_readSquare 14 = .ok (.invokevirtual 143, 3) := by decide +kernel
theorem dX8_readSquare_17 : decode cX8_readSquare 17 = .ok (.aload_n 1, 1) := by decide +kernel
theorem dX8_readSquare_18 : decode cX8_readSquare 18 = .ok (.iconst 2, 1) := by decide +kernel
theorem dX8_readSquare_19 : decode cX8_readSquare 19 = .ok (.bipush 10, 2) := by decide +kernel
theorem dX8_readSquare_21 : decode cX8_readSquare 21 = .ok (.invokevirtual 146, 3) := by decide +kernel
theorem dX8_readSquare_24 : decode cX8_readSquare 24 = .ok (.ifCond .ne 5, 3) := by decide +kernel
theorem dX8_readSquare_27 : decode cX8_readSquare 27 = .ok (.iconst 0, 1) := by decide +kernel
theorem dX8_readSquare_28 : decode cX8_readSquare 28 = .ok (.ireturn, 1) := by decide +kernel
theorem dX8_readSquare_29 : decode cX8_readSquare 29 = .ok (.aload_n 0, 1) := by decide +kernel
theorem dX8_readSquare_30 : decode cX8_readSquare 30 = .ok (.aload_n 1, 1) := by decide +kernel
theorem dX8_readSquare_31 : decode cX8_readSquare 31 = .ok (.getfield 150, 3) := by decide +kernel
theorem dX8_readSquare_34 : decode cX8_readSquare 34 = .ok (.putfield 59, 3) := by decide +kernel
theorem dX8_readSquare_37 : decode cX8_readSquare 37 = .ok (.aload_n 1, 1) := by decide +kernel
theorem dX8_readSquare_38 : decode cX8_readSquare 38 = .ok (.invokevirtual 143, 3) := by decide +kernel
theorem dX8_readSquare_41 : decode cX8_readSquare 41 = .ok (.aload_n 1, 1) := by decide +kernel
theorem dX8_readSquare_42 : decode cX8_readSquare 42 = .ok (.iconst 2, 1) := by decide +kernel
theorem dX8_readSquare_43 : decode cX8_readSquare 43 = .ok (.bipush 10, 2) := by decide +kernel
theorem dX8_readSquare_45 : decode cX8_readSquare 45 = .ok (.invokevirtual 146, 3) := by decide +kernel
theorem dX8_readSquare_48 : decode cX8_readSquare 48 = .ok (.ifCond .ne 5, 3) := by decide +kernel
theorem dX8_readSquare_51 : decode cX8_readSquare 51 = .ok (.iconst 0, 1) := by decide +kernel
theorem dX8_readSquare_52 : decode cX8_readSquare 52 = .ok (.ireturn, 1) := by decide +kernel
theorem dX8_readSquare_53 : decode cX8_readSquare 53 = .ok (.aload_n 0, 1) := by decide +kernel
theorem dX8_readSquare_54 : decode cX8_readSquare 54 = .ok (.aload_n 1, 1) := by decide +kernel
theorem dX8_readSquare_55 : decode cX8_readSquare 55 = .ok (.getfield 150, 3) := by decide +kernel
theorem dX8_readSquare_58 : decode cX8_readSquare 58 = .ok (.putfield 62, 3) := by decide +kernel
theorem dX8_readSquare_61 : decode cX8_readSquare 61 = .ok (.aload_n 1, 1) := by decide +kernel
theorem dX8_readSquare_62 : decode cX8_readSquare 62 = .ok (.invokevirtual 143, 3) := by decide +kernel
theorem dX8_readSquare_65 : decode cX8_readSquare 65 = .ok (.iconst 1, 1) := by decide +kernel
theorem dX8_readSquare_66 : decode cX8_readSquare 66 = .ok (.ireturn, 1) := by decide +kernel
theorem dX8_readThing_0 : decode cX8_readThing 0 = .ok (.aload_n 0, 1) := by decide +kernel
theorem dX8_readThing_1 : decode cX8_readThing 1 = .ok (.getfield 40, 3) := by decide +kernel
theorem dX8_readThing_4 : decode cX8_readThing 4 = .ok (.iload_n 2, 1) := by decide +kernel
theorem dX8_readThing_5 : decode cX8_readThing 5 = .ok (.iaload, 1) := by decide +kernel
theorem dX8_readThing_6 : decode cX8_readThing 6 = .ok (.bipush 12, 2) := by decide +kernel
theorem dX8_readThing_8 : decode cX8_readThing 8 = .ok (.if_icmp .lt 9, 3) := by decide +kernel
theorem dX8_readThing_11 : decode cX8_readThing 11 = .ok (.aload_n 1, 1) := by decide +kernel
theorem dX8_readThing_12 : decode cX8_readThing 12 = .ok (.iconst 4, 1) := by decide +kernel
theorem dX8_readThing_13 : decode cX8_readThing 13 = .ok (.invokevirtual 118, 3) := by decide +kernel
theorem dX8_readThing_16 : decode cX8_readThing 16 = .ok (.ireturn, 1) := by decide +kernel
theorem dX8_readThing_17 : decode cX8_readThing 17 = .ok (.aload_n 1, 1) := by decide +kernel
theorem dX8_readThing_18 : decode cX8_readThing 18 = .ok (.invokevirtual 143, 3) := by decide +kernel
theorem dX8_readThing_21 : decode cX8_readThing 21 = .ok (.aload_n 0, 1) := by decide +kernel
theorem dX8_readThing_22 : decode cX8_readThing 22 = .ok (.aload_n 1, 1) := by decide +kernel
theorem dX8_readThing_23 : decode cX8_readThing 23 = .ok (.iload_n 2, 1) := by decide +kernel
theorem dX8_readThing_24 : decode cX8_readThing 24 = .ok (.invokevirtual 165, 3) := by decide +kernel
theorem dX8_readThing_27 : decode cX8_readThing 27 = .ok (.ifCond .ne 5, 3) := by decide +kernel
theorem dX8_readThing_30 : decode cX8_readThing 30 = .ok (.iconst 0, 1) := by decide +kernel
theorem dX8_readThing_31 : decode cX8_readThing 31 = .ok (.ireturn, 1) := by decide +kernel
theorem dX8_readThing_32 : decode cX8_readThing 32 = .ok (.aload_n 0, 1) := by decide +kernel
theorem dX8_readThing_33 : decode cX8_readThing 33 = .ok (.iload_n 2, 1) := by decide +kernel
theorem dX8_readThing_34 : decode cX8_readThing 34 = .ok (.aload_n 0, 1) := by decide +kernel
theorem dX8_readThing_35 : decode cX8_readThing 35 = .ok (.getfield 168, 3) := by decide +kernel
theorem dX8_readThing_38 : decode cX8_readThing 38 = .ok (.invokevirtual 175, 3) := by decide +kernel
theorem dX8_readThing_41 : decode cX8_readThing 41 = .ok (.iconst 1, 1) := by decide +kernel
theorem dX8_readThing_42 : decode cX8_readThing 42 = .ok (.ireturn, 1) := by decide +kernel
theorem dX8_readLine_0 : decode cX8_readLine 0 = .ok (.aload_n 1, 1) := by decide +kernel
theorem dX8_readLine_1 : decode cX8_readLine 1 = .ok (.getfield 107, 3) := by decide +kernel
theorem dX8_readLine_4 : decode cX8_readLine 4 = .ok (.iconst 1, 1) := by decide +kernel
theorem dX8_readLine_5 : decode cX8_readLine 5 = .ok (.if_icmp .eq 9, 3) := by decide +kernel
theorem dX8_readLine_8 : decode cX8_readLine 8 = .ok (.aload_n 1, 1) := by decide +kernel
theorem dX8_readLine_9 : decode cX8_readLine 9 = .ok (.iconst 1, 1) := by decide +kernel
theorem dX8_readLine_10 : decode cX8_readLine 10 = .ok (.invokevirtual 118, 3) := by decide +kernel
theorem dX8_readLine_13 : decode cX8_readLine 13 = .ok (.ireturn, 1) := by decide +kernel
theorem dX8_readLine_14 : decode cX8_readLine 14 = .ok (.aload_n 1, 1) := by decide +kernel
theorem dX8_readLine_15 : decode cX8_readLine 15 = .ok (.getfield 121, 3) := by decide +kernel
theorem dX8_readLine_18 : decode cX8_readLine 18 = .ok (.tableswitch 97 0 7 #[46, 52, 58, 64, 71, 78, 85, 91], 46) := by decide +kernel
theorem dX8_readLine_64 : decode cX8_readLine 64 = .ok (.aload_n 0, 1) := by decide +kernel
theorem dX8_readLine_65 : decode cX8_readLine 65 = .ok (.aload_n 1, 1) := by decide +kernel
theorem dX8_readLine_66 : decode cX8_readLine 66 = .ok (.invokevirtual 124, 3) := by decide +kernel
theorem dX8_readLine_69 : decode cX8_readLine 69 = .ok (.ireturn, 1) := by decide +kernel
theorem dX8_readLine_70 : decode cX8_readLine 70 = .ok (.aload_n 0, 1) := by decide +kernel
theorem dX8_readLine_71 : decode cX8_readLine 71 = .ok (.aload_n 1, 1) := by decide +kernel
theorem dX8_readLine_72 : decode cX8_readLine 72 = .ok (.invokevirtual 127, 3) := by decide +kernel
theorem dX8_readLine_75 : decode cX8_readLine 75 = .ok (.ireturn, 1) := by decide +kernel
theorem dX8_readLine_76 : decode cX8_readLine 76 = .ok (.aload_n 0, 1) := by decide +kernel
theorem dX8_readLine_77 : decode cX8_readLine 77 = .ok (.aload_n 1, 1) := by decide +kernel
theorem dX8_readLine_78 : decode cX8_readLine 78 = .ok (.invokevirtual 130, 3) := by decide +kernel
theorem dX8_readLine_81 : decode cX8_readLine 81 = .ok (.ireturn, 1) := by decide +kernel
theorem dX8_readLine_82 : decode cX8_readLine 82 = .ok (.aload_n 0, 1) := by decide +kernel
theorem dX8_readLine_83 : decode cX8_readLine 83 = .ok (.aload_n 1, 1) := by decide +kernel
theorem dX8_readLine_84 : decode cX8_readLine 84 = .ok (.iconst 0, 1) := by decide +kernel
theorem dX8_readLine_85 : decode cX8_readLine 85 = .ok (.invokevirtual 133, 3) := by decide +kernel
theorem dX8_readLine_88 : decode cX8_readLine 88 = .ok (.ireturn, 1) := by decide +kernel
theorem dX8_readLine_89 : decode cX8_readLine 89 = .ok (.aload_n 0, 1) := by decide +kernel
theorem dX8_readLine_90 : decode cX8_readLine 90 = .ok (.aload_n 1, 1) := by decide +kernel
theorem dX8_readLine_91 : decode cX8_readLine 91 = .ok (.iconst 1, 1) := by decide +kernel
theorem dX8_readLine_92 : decode cX8_readLine 92 = .ok (.invokevirtual 133, 3) := by decide +kernel
theorem dX8_readLine_95 : decode cX8_readLine 95 = .ok (.ireturn, 1) := by decide +kernel
theorem dX8_readLine_96 : decode cX8_readLine 96 = .ok (.aload_n 0, 1) := by decide +kernel
theorem dX8_readLine_97 : decode cX8_readLine 97 = .ok (.aload_n 1, 1) := by decide +kernel
theorem dX8_readLine_98 : decode cX8_readLine 98 = .ok (.iconst 2, 1) := by decide +kernel
theorem dX8_readLine_99 : decode cX8_readLine 99 = .ok (.invokevirtual 133, 3) := by decide +kernel
theorem dX8_readLine_102 : decode cX8_readLine 102 = .ok (.ireturn, 1) := by decide +kernel
theorem dX8_readLine_103 : decode cX8_readLine 103 = .ok (.aload_n 0, 1) := by decide +kernel
theorem dX8_readLine_104 : decode cX8_readLine 104 = .ok (.aload_n 1, 1) := by decide +kernel
theorem dX8_readLine_105 : decode cX8_readLine 105 = .ok (.invokevirtual 137, 3) := by decide +kernel
theorem dX8_readLine_108 : decode cX8_readLine 108 = .ok (.ireturn, 1) := by decide +kernel
theorem dX8_readLine_109 : decode cX8_readLine 109 = .ok (.aload_n 0, 1) := by decide +kernel
theorem dX8_readLine_110 : decode cX8_readLine 110 = .ok (.aload_n 1, 1) := by decide +kernel
theorem dX8_readLine_111 : decode cX8_readLine 111 = .ok (.invokevirtual 140, 3) := by decide +kernel
theorem dX8_readLine_114 : decode cX8_readLine 114 = .ok (.ireturn, 1) := by decide +kernel
theorem dX8_readLine_115 : decode cX8_readLine 115 = .ok (.aload_n 1, 1) := by decide +kernel
theorem dX8_readLine_116 : decode cX8_readLine 116 = .ok (.iconst 1, 1) := by decide +kernel
theorem dX8_readLine_117 : decode cX8_readLine 117 = .ok (.invokevirtual 118, 3) := by decide +kernel
theorem dX8_readLine_120 : decode cX8_readLine 120 = .ok (.ireturn, 1) := by decide +kernel
theorem dX8_readFrom_0 : decode cX8_readFrom 0 = .ok (.aload_n 0, 1) := by decide +kernel
theorem dX8_readFrom_1 : decode cX8_readFrom 1 = .ok (.invokevirtual 52, 3) := by decide +kernel
theorem dX8_readFrom_4 : decode cX8_readFrom 4 = .ok (.aload_n 1, 1) := by decide +kernel
theorem dX8_readFrom_5 : decode cX8_readFrom 5 = .ok (.sipush 900, 3) := by decide +kernel
theorem dX8_readFrom_8 : decode cX8_readFrom 8 = .ok (.invokevirtual 101, 3) := by decide +kernel
theorem dX8_readFrom_11 : decode cX8_readFrom 11 = .ok (.iconst 0, 1) := by decide +kernel
theorem dX8_readFrom_12 : decode cX8_readFrom 12 = .ok (.istore_n 2, 1) := by decide +kernel
theorem dX8_readFrom_13 : decode cX8_readFrom 13 = .ok (.iload_n 2, 1) := by decide +kernel
theorem dX8_readFrom_14 : decode cX8_readFrom 14 = .ok (.sipush 900, 3) := by decide +kernel
theorem dX8_readFrom_17 : decode cX8_readFrom 17 = .ok (.if_icmp .ge 46, 3) := by decide +kernel
theorem dX8_readFrom_20 : decode cX8_readFrom 20 = .ok (.aload_n 1, 1) := by decide +kernel
theorem dX8_readFrom_21 : decode cX8_readFrom 21 = .ok (.getfield 107, 3) := by decide +kernel
theorem dX8_readFrom_24 : decode cX8_readFrom 24 = .ok (.iconst 4, 1) := by decide +kernel
theorem dX8_readFrom_25 : decode cX8_readFrom 25 = .ok (.if_icmp .eq 38, 3) := by decide +kernel
theorem dX8_readFrom_28 : decode cX8_readFrom 28 = .ok (.aload_n 0, 1) := by decide +kernel
theorem dX8_readFrom_29 : decode cX8_readFrom 29 = .ok (.aload_n 1, 1) := by decide +kernel
theorem dX8_readFrom_30 : decode cX8_readFrom 30 = .ok (.invokevirtual 110, 3) := by decide +kernel
theorem dX8_readFrom_33 : decode cX8_readFrom 33 = .ok (.ifCond .eq 12, 3) := by decide +kernel
theorem dX8_readFrom_36 : decode cX8_readFrom 36 = .ok (.aload_n 1, 1) := by decide +kernel
theorem dX8_readFrom_37 : decode cX8_readFrom 37 = .ok (.bipush 59, 2) := by decide +kernel
theorem dX8_readFrom_39 : decode cX8_readFrom 39 = .ok (.invokevirtual 114, 3) := by decide +kernel
theorem dX8_readFrom_42 : decode cX8_readFrom 42 = .ok (.ifCond .ne 5, 3) := by decide +kernel
theorem dX8_readFrom_45 : decode cX8_readFrom 45 = .ok (.iconst 0, 1) := by decide +kernel
theorem dX8_readFrom_46 : decode cX8_readFrom 46 = .ok (.ireturn, 1) := by decide +kernel
theorem dX8_readFrom_47 : decode cX8_readFrom 47 = .ok (.aload_n 0, 1) := by decide +kernel
theorem dX8_readFrom_48 : decode cX8_readFrom 48 = .ok (.dup, 1) := by decide +kernel
theorem dX8_readFrom_49 : decode cX8_readFrom 49 = .ok (.getfield 55, 3) := by decide +kernel
theorem dX8_readFrom_52 : decode cX8_readFrom 52 = .ok (.iconst 1, 1) := by decide +kernel
theorem dX8_readFrom_53 : decode cX8_readFrom 53 = .ok (.iadd, 1) := by decide +kernel
theorem dX8_readFrom_54 : decode cX8_readFrom 54 = .ok (.putfield 55, 3) := by decide +kernel
theorem dX8_readFrom_57 : decode cX8_readFrom 57 = .ok (.iinc 2 1, 3) := by decide +kernel
theorem dX8_readFrom_60 : decode cX8_readFrom 60 = .ok (.goto (-47), 3) := by decide +kernel
theorem dX8_readFrom_63 : decode cX8_readFrom 63 = .ok (.iconst 1, 1) := by decide +kernel
theorem dX8_readFrom_64 : decode cX8_readFrom 64 = .ok (.ireturn, 1) := by decide +kernel
