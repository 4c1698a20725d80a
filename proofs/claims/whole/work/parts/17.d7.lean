theorem dX11_thrown_0 : decode cX11_thrown 0 = .ok (.aload_n 0, 1) := by decide +kernel
theorem dX11_thrown_1 : decode cX11_thrown 1 = .ok (.getfield 1, 3) := by decide +kernel
theorem dX11_thrown_4 : decode cX11_thrown 4 = .ok (.ireturn, 1) := by decide +kernel
theorem dX11_throwsIf_0 : decode cX11_throwsIf 0 = .ok (.aload_n 0, 1) := by decide +kernel
theorem dX11_throwsIf_1 : decode cX11_throwsIf 1 = .ok (.iload_n 1, 1) := by decide +kernel
theorem dX11_throwsIf_2 : decode cX11_throwsIf 2 = .ok (.ifCond .eq 7, 3) := by decide +kernel
theorem dX11_throwsIf_5 : decode cX11_throwsIf 5 = .ok (.iconst 1, 1) := by decide +kernel
theorem dX11_throwsIf_6 : decode cX11_throwsIf 6 = .ok (.goto 4, 3) := by decide +kernel
theorem dX11_throwsIf_9 : decode cX11_throwsIf 9 = .ok (.iconst 0, 1) := by decide +kernel
theorem dX11_throwsIf_10 : decode cX11_throwsIf 10 = .ok (.putfield 1, 3) := by decide +kernel
theorem dX11_throwsIf_13 : decode cX11_throwsIf 13 = .ok (.iload_n 1, 1) := by decide +kernel
theorem dX11_throwsIf_14 : decode cX11_throwsIf 14 = .ok (.ireturn, 1) := by decide +kernel
theorem dX11_four_0 : decode cX11_four 0 = .ok (.bipush 24, 2) := by decide +kernel
theorem dX11_four_2 : decode cX11_four 2 = .ok (.istore_n 2, 1) := by decide +kernel
theorem dX11_four_3 : decode cX11_four 3 = .ok (.iload_n 2, 1) := by decide +kernel
theorem dX11_four_4 : decode cX11_four 4 = .ok (.ifCond .lt 32, 3) := by decide +kernel
theorem dX11_four_7 : decode cX11_four 7 = .ok (.aload_n 0, 1) := by decide +kernel
theorem dX11_four_8 : decode cX11_four 8 = .ok (.getfield 14, 3) := by decide +kernel
theorem dX11_four_11 : decode cX11_four 11 = .ok (.aload_n 0, 1) := by decide +kernel
theorem dX11_four_12 : decode cX11_four 12 = .ok (.getfield 7, 3) := by decide +kernel
theorem dX11_four_15 : decode cX11_four 15 = .ok (.iload_n 1, 1) := by decide +kernel
theorem dX11_four_16 : decode cX11_four 16 = .ok (.iload_n 2, 1) := by decide +kernel
theorem dX11_four_17 : decode cX11_four 17 = .ok (.ishr, 1) := by decide +kernel
theorem dX11_four_18 : decode cX11_four 18 = .ok (.i2b, 1) := by decide +kernel
theorem dX11_four_19 : decode cX11_four 19 = .ok (.bastore, 1) := by decide +kernel
theorem dX11_four_20 : decode cX11_four 20 = .ok (.aload_n 0, 1) := by decide +kernel
theorem dX11_four_21 : decode cX11_four 21 = .ok (.dup, 1) := by decide +kernel
theorem dX11_four_22 : decode cX11_four 22 = .ok (.getfield 7, 3) := by decide +kernel
theorem dX11_four_25 : decode cX11_four 25 = .ok (.iconst 1, 1) := by decide +kernel
theorem dX11_four_26 : decode cX11_four 26 = .ok (.iadd, 1) := by decide +kernel
theorem dX11_four_27 : decode cX11_four 27 = .ok (.putfield 7, 3) := by decide +kernel
theorem dX11_four_30 : decode cX11_four 30 = .ok (.iinc 2 (-8), 3) := by decide +kernel
theorem dX11_four_33 : decode cX11_four 33 = .ok (.goto (-30), 3) := by decide +kernel
theorem dX11_four_36 : decode cX11_four 36 = .ok (.return_, 1) := by decide +kernel
theorem dX11_feed_0 : decode cX11_feed 0 = .ok (.aload_n 0, 1) := by decide +kernel
theorem dX11_feed_1 : decode cX11_feed 1 = .ok (.iconst 0, 1) := by decide +kernel
theorem dX11_feed_2 : decode cX11_feed 2 = .ok (.putfield 1, 3) := by decide +kernel
theorem dX11_feed_5 : decode cX11_feed 5 = .ok (.aload_n 0, 1) := by decide +kernel
theorem dX11_feed_6 : decode cX11_feed 6 = .ok (.getfield 7, 3) := by decide +kernel
theorem dX11_feed_9 : decode cX11_feed 9 = .ok (.bipush 20, 2) := by decide +kernel
theorem dX11_feed_11 : decode cX11_feed 11 = .ok (.iadd, 1) := by decide +kernel
theorem dX11_feed_12 : decode cX11_feed 12 = .ok (.sipush 940, 3) := by decide +kernel
theorem dX11_feed_15 : decode cX11_feed 15 = .ok (.if_icmp .le 5, 3) := by decide +kernel
theorem dX11_feed_18 : decode cX11_feed 18 = .ok (.iconst (-1), 1) := by decide +kernel
theorem dX11_feed_19 : decode cX11_feed 19 = .ok (.ireturn, 1) := by decide +kernel
theorem dX11_feed_20 : decode cX11_feed 20 = .ok (.aload_n 0, 1) := by decide +kernel
theorem dX11_feed_21 : decode cX11_feed 21 = .ok (.iload_n 1, 1) := by decide +kernel
theorem dX11_feed_22 : decode cX11_feed 22 = .ok (.invokevirtual 10, 3) := by decide +kernel
theorem dX11_feed_25 : decode cX11_feed 25 = .ok (.aload_n 0, 1) := by decide +kernel
theorem dX11_feed_26 : decode cX11_feed 26 = .ok (.iload_n 2, 1) := by decide +kernel
theorem dX11_feed_27 : decode cX11_feed 27 = .ok (.invokevirtual 10, 3) := by decide +kernel
theorem dX11_feed_30 : decode cX11_feed 30 = .ok (.aload_n 0, 1) := by decide +kernel
theorem dX11_feed_31 : decode cX11_feed 31 = .ok (.iload_n 3, 1) := by decide +kernel
theorem dX11_feed_32 : decode cX11_feed 32 = .ok (.invokevirtual 10, 3) := by decide +kernel
theorem dX11_feed_35 : decode cX11_feed 35 = .ok (.aload_n 0, 1) := by decide +kernel
theorem dX11_feed_36 : decode cX11_feed 36 = .ok (.iload 4, 2) := by decide +kernel
theorem dX11_feed_38 : decode cX11_feed 38 = .ok (.invokevirtual 10, 3) := by decide +kernel
theorem dX11_feed_41 : decode cX11_feed 41 = .ok (.aload_n 0, 1) := by decide +kernel
theorem dX11_feed_42 : decode cX11_feed 42 = .ok (.iload 5, 2) := by decide +kernel
theorem dX11_feed_44 : decode cX11_feed 44 = .ok (.invokevirtual 10, 3) := by decide +kernel
theorem dX11_feed_47 : decode cX11_feed 47 = .ok (.aload_n 0, 1) := by decide +kernel
theorem dX11_feed_48 : decode cX11_feed 48 = .ok (.getfield 7, 3) := by decide +kernel
theorem dX11_feed_51 : decode cX11_feed 51 = .ok (.ireturn, 1) := by decide +kernel
theorem dX11_end_0 : decode cX11_end 0 = .ok (.aload_n 0, 1) := by decide +kernel
theorem dX11_end_1 : decode cX11_end 1 = .ok (.iconst 0, 1) := by decide +kernel
theorem dX11_end_2 : decode cX11_end 2 = .ok (.putfield 1, 3) := by decide +kernel
theorem dX11_end_5 : decode cX11_end 5 = .ok (.iload_n 1, 1) := by decide +kernel
theorem dX11_end_6 : decode cX11_end 6 = .ok (.ifCond .lt 11, 3) := by decide +kernel
theorem dX11_end_9 : decode cX11_end 9 = .ok (.iload_n 1, 1) := by decide +kernel
theorem dX11_end_10 : decode cX11_end 10 = .ok (.aload_n 0, 1) := by decide +kernel
theorem dX11_end_11 : decode cX11_end 11 = .ok (.getfield 7, 3) := by decide +kernel
theorem dX11_end_14 : decode cX11_end 14 = .ok (.if_icmp .le 5, 3) := by decide +kernel
theorem dX11_end_17 : decode cX11_end 17 = .ok (.iconst 0, 1) := by decide +kernel
theorem dX11_end_18 : decode cX11_end 18 = .ok (.ireturn, 1) := by decide +kernel
theorem dX11_end_19 : decode cX11_end 19 = .ok (.aload_n 0, 1) := by decide +kernel
theorem dX11_end_20 : decode cX11_end 20 = .ok (.iload_n 1, 1) := by decide +kernel
theorem dX11_end_21 : decode cX11_end 21 = .ok (.putfield 7, 3) := by decide +kernel
theorem dX11_end_24 : decode cX11_end 24 = .ok (.iconst 1, 1) := by decide +kernel
theorem dX11_end_25 : decode cX11_end 25 = .ok (.ireturn, 1) := by decide +kernel
theorem dX11_taken_0 : decode cX11_taken 0 = .ok (.aload_n 0, 1) := by decide +kernel
theorem dX11_taken_1 : decode cX11_taken 1 = .ok (.aload_n 0, 1) := by decide +kernel
theorem dX11_taken_2 : decode cX11_taken 2 = .ok (.getfield 7, 3) := by decide +kernel
theorem dX11_taken_5 : decode cX11_taken 5 = .ok (.putfield 18, 3) := by decide +kernel
theorem dX11_taken_8 : decode cX11_taken 8 = .ok (.aload_n 0, 1) := by decide +kernel
theorem dX11_taken_9 : decode cX11_taken 9 = .ok (.iconst 0, 1) := by decide +kernel
theorem dX11_taken_10 : decode cX11_taken 10 = .ok (.putfield 7, 3) := by decide +kernel
theorem dX11_taken_13 : decode cX11_taken 13 = .ok (.aload_n 0, 1) := by decide +kernel
theorem dX11_taken_14 : decode cX11_taken 14 = .ok (.iconst 0, 1) := by decide +kernel
theorem dX11_taken_15 : decode cX11_taken 15 = .ok (.putfield 21, 3) := by decide +kernel
theorem dX11_taken_18 : decode cX11_taken 18 = .ok (.aload_n 0, 1) := by decide +kernel
theorem dX11_taken_19 : decode cX11_taken 19 = .ok (.iload_n 1, 1) := by decide +kernel
theorem dX11_taken_20 : decode cX11_taken 20 = .ok (.putfield 24, 3) := by decide +kernel
theorem dX11_taken_23 : decode cX11_taken 23 = .ok (.return_, 1) := by decide +kernel
theorem dX11_isIn_0 : decode cX11_isIn 0 = .ok (.iload_n 0, 1) := by decide +kernel
theorem dX11_isIn_1 : decode cX11_isIn 1 = .ok (.iload_n 1, 1) := by decide +kernel
theorem dX11_isIn_2 : decode cX11_isIn 2 = .ok (.if_icmp .lt 12, 3) := by decide +kernel
theorem dX11_isIn_5 : decode cX11_isIn 5 = .ok (.iload_n 0, 1) := by decide +kernel
theorem dX11_isIn_6 : decode cX11_isIn 6 = .ok (.iload_n 2, 1) := by decide +kernel
theorem dX11_isIn_7 : decode cX11_isIn 7 = .ok (.if_icmp .gt 7, 3) := by decide +kernel
theorem dX11_isIn_10 : decode cX11_isIn 10 = .ok (.iconst 1, 1) := by decide +kernel
theorem dX11_isIn_11 : decode cX11_isIn 11 = .ok (.goto 4, 3) := by decide +kernel
theorem dX11_isIn_14 : decode cX11_isIn 14 = .ok (.iconst 0, 1) := by decide +kernel
theorem dX11_isIn_15 : decode cX11_isIn 15 = .ok (.ireturn, 1) := by decide +kernel
theorem dX11_bitOf_0 : decode cX11_bitOf 0 = .ok (.iload_n 0, 1) := by decide +kernel
theorem dX11_bitOf_1 : decode cX11_bitOf 1 = .ok (.iload_n 1, 1) := by decide +kernel
theorem dX11_bitOf_2 : decode cX11_bitOf 2 = .ok (.ishr, 1) := by decide +kernel
theorem dX11_bitOf_3 : decode cX11_bitOf 3 = .ok (.iconst 1, 1) := by decide +kernel
theorem dX11_bitOf_4 : decode cX11_bitOf 4 = .ok (.iand, 1) := by decide +kernel
theorem dX11_bitOf_5 : decode cX11_bitOf 5 = .ok (.iconst 1, 1) := by decide +kernel
theorem dX11_bitOf_6 : decode cX11_bitOf 6 = .ok (.if_icmp .ne 7, 3) := by decide +kernel
theorem dX11_bitOf_9 : decode cX11_bitOf 9 = .ok (.iconst 1, 1) := by decide +kernel
theorem dX11_bitOf_10 : decode cX11_bitOf 10 = .ok (.goto 4, 3) := by decide +kernel
theorem dX11_bitOf_13 : decode cX11_bitOf 13 = .ok (.iconst 0, 1) := by decide +kernel
theorem dX11_bitOf_14 : decode cX11_bitOf 14 = .ok (.ireturn, 1) := by decide +kernel
theorem dX11_sizeOf_0 : decode cX11_sizeOf 0 = .ok (.iload_n 0, 1) := by decide +kernel
theorem dX11_sizeOf_1 : decode cX11_sizeOf 1 = .ok (.ifCond .ge 8, 3) := by decide +kernel
theorem dX11_sizeOf_4 : decode cX11_sizeOf 4 = .ok (.iload_n 0, 1) := by decide +kernel
theorem dX11_sizeOf_5 : decode cX11_sizeOf 5 = .ok (.ineg, 1) := by decide +kernel
theorem dX11_sizeOf_6 : decode cX11_sizeOf 6 = .ok (.goto 4, 3) := by decide +kernel
theorem dX11_sizeOf_9 : decode cX11_sizeOf 9 = .ok (.iload_n 0, 1) := by decide +kernel
theorem dX11_sizeOf_10 : decode cX11_sizeOf 10 = .ok (.ireturn, 1) := by decide +kernel
theorem dX11_octet_0 : decode cX11_octet 0 = .ok (.aload_n 0, 1) := by decide +kernel
theorem dX11_octet_1 : decode cX11_octet 1 = .ok (.getfield 14, 3) := by decide +kernel
theorem dX11_octet_4 : decode cX11_octet 4 = .ok (.iload_n 1, 1) := by decide +kernel
theorem dX11_octet_5 : decode cX11_octet 5 = .ok (.baload, 1) := by decide +kernel
theorem dX11_octet_6 : decode cX11_octet 6 = .ok (.sipush 255, 3) := by decide +kernel
theorem dX11_octet_9 : decode cX11_octet 9 = .ok (.iand, 1) := by decide +kernel
theorem dX11_octet_10 : decode cX11_octet 10 = .ok (.ireturn, 1) := by decide +kernel
theorem dX11_peek_0 : decode cX11_peek 0 = .ok (.aload_n 0, 1) := by decide +kernel
theorem dX11_peek_1 : decode cX11_peek 1 = .ok (.getfield 21, 3) := by decide +kernel
theorem dX11_peek_4 : decode cX11_peek 4 = .ok (.aload_n 0, 1) := by decide +kernel
theorem dX11_peek_5 : decode cX11_peek 5 = .ok (.getfield 18, 3) := by decide +kernel
theorem dX11_peek_8 : decode cX11_peek 8 = .ok (.if_icmp .ge 19, 3) := by decide +kernel
theorem dX11_peek_11 : decode cX11_peek 11 = .ok (.aload_n 0, 1) := by decide +kernel
theorem dX11_peek_12 : decode cX11_peek 12 = .ok (.getfield 14, 3) := by decide +kernel
theorem dX11_peek_15 : decode cX11_peek 15 = .ok (.aload_n 0, 1) := by decide +kernel
theorem dX11_peek_16 : decode cX11_peek 16 = .ok (.getfield 21, 3) := by decide +kernel
theorem dX11_peek_19 : decode cX11_peek 19 = .ok (.baload, 1) := by decide +kernel
theorem dX11_peek_20 : decode cX11_peek 20 = .ok (.sipush 255, 3) := by decide +kernel
theorem dX11_peek_23 : decode cX11_peek 23 = .ok (.iand, 1) := by decide +kernel
theorem dX11_peek_24 : decode cX11_peek 24 = .ok (.goto 4, 3) := by decide +kernel
theorem dX11_peek_27 : decode cX11_peek 27 = .ok (.iconst (-1), 1) := by decide +kernel
theorem dX11_peek_28 : decode cX11_peek 28 = .ok (.ireturn, 1) := by decide +kernel
theorem dX11_isSmall_0 : decode cX11_isSmall 0 = .ok (.iload_n 0, 1) := by decide +kernel
theorem dX11_isSmall_1 : decode cX11_isSmall 1 = .ok (.bipush 97, 2) := by decide +kernel
theorem dX11_isSmall_3 : decode cX11_isSmall 3 = .ok (.if_icmp .lt 13, 3) := by decide +kernel
theorem dX11_isSmall_6 : decode cX11_isSmall 6 = .ok (.iload_n 0, 1) := by decide +kernel
theorem dX11_isSmall_7 : decode cX11_isSmall 7 = .ok (.bipush 122, 2) := by decide +kernel
theorem dX11_isSmall_9 : decode cX11_isSmall 9 = .ok (.if_icmp .gt 7, 3) := by decide +kernel
theorem dX11_isSmall_12 : decode cX11_isSmall 12 = .ok (.iconst 1, 1) := by decide +kernel
theorem dX11_isSmall_13 : decode cX11_isSmall 13 = .ok (.goto 4, 3) := by decide +kernel
theorem dX11_isSmall_16 : decode cX11_isSmall 16 = .ok (.iconst 0, 1) := by decide +kernel
theorem dX11_isSmall_17 : decode cX11_isSmall 17 = .ok (.ireturn, 1) := by decide +kernel
theorem dX11_isDigit_0 : decode cX11_isDigit 0 = .ok (.iload_n 0, 1) := by decide +kernel
theorem dX11_isDigit_1 : decode cX11_isDigit 1 = .ok (.bipush 48, 2) := by decide +kernel
theorem dX11_isDigit_3 : decode cX11_isDigit 3 = .ok (.if_icmp .lt 13, 3) := by decide +kernel
theorem dX11_isDigit_6 : decode cX11_isDigit 6 = .ok (.iload_n 0, 1) := by decide +kernel
theorem dX11_isDigit_7 : decode cX11_isDigit 7 = .ok (.bipush 57, 2) := by decide +kernel
theorem dX11_isDigit_9 : decode cX11_isDigit 9 = .ok (.if_icmp .gt 7, 3) := by decide +kernel
theorem dX11_isDigit_12 : decode cX11_isDigit 12 = .ok (.iconst 1, 1) := by decide +kernel
theorem dX11_isDigit_13 : decode cX11_isDigit 13 = .ok (.goto 4, 3) := by decide +kernel
theorem dX11_isDigit_16 : decode cX11_isDigit 16 = .ok (.iconst 0, 1) := by decide +kernel
theorem dX11_isDigit_17 : decode cX11_isDigit 17 = .ok (.ireturn, 1) := by decide +kernel
theorem dX11_next_0 : decode cX11_next 0 = .ok (.aload_n 0, 1) := by decide +kernel
theorem dX11_next_1 : decode cX11_next 1 = .ok (.invokevirtual 152, 3) := by decide +kernel
theorem dX11_next_4 : decode cX11_next 4 = .ok (.bipush 32, 2) := by decide +kernel
theorem dX11_next_6 : decode cX11_next 6 = .ok (.if_icmp .eq 12, 3) := by decide +kernel
theorem dX11_next_9 : decode cX11_next 9 = .ok (.aload_n 0, 1) := by decide +kernel
theorem dX11_next_10 : decode cX11_next 10 = .ok (.invokevirtual 152, 3) := by decide +kernel
theorem dX11_next_13 : decode cX11_next 13 = .ok (.bipush 10, 2) := by decide +kernel
theorem dX11_next_15 : decode cX11_next 15 = .ok (.if_icmp .ne 16, 3) := by decide +kernel
theorem dX11_next_18 : decode cX11_next 18 = .ok (.aload_n 0, 1) := by decide +kernel
theorem dX11_next_19 : decode cX11_next 19 = .ok (.dup, 1) := by decide +kernel
theorem dX11_next_20 : decode cX11_next 20 = .ok (.getfield 21, 3) := by decide +kernel
theorem dX11_next_23 : decode cX11_next 23 = .ok (.iconst 1, 1) := by decide +kernel
theorem dX11_next_24 : decode cX11_next 24 = .ok (.iadd, 1) := by decide +kernel
theorem dX11_next_25 : decode cX11_next 25 = .ok (.putfield 21, 3) := by decide +kernel
theorem dX11_next_28 : decode cX11_next 28 = .ok (.goto (-28), 3) := by decide +kernel
theorem dX11_next_31 : decode cX11_next 31 = .ok (.aload_n 0, 1) := by decide +kernel
theorem dX11_next_32 : decode cX11_next 32 = .ok (.aload_n 0, 1) := by decide +kernel
theorem dX11_next_33 : decode cX11_next 33 = .ok (.getfield 21, 3) := by decide +kernel
theorem dX11_next_36 : decode cX11_next 36 = .ok (.putfield 156, 3) := by decide +kernel
theorem dX11_next_39 : decode cX11_next 39 = .ok (.aload_n 0, 1) := by decide +kernel
theorem dX11_next_40 : decode cX11_next 40 = .ok (.iconst 0, 1) := by decide +kernel
theorem dX11_next_41 : decode cX11_next 41 = .ok (.putfield 159, 3) := by decide +kernel
theorem dX11_next_44 : decode cX11_next 44 = .ok (.aload_n 0, 1) := by decide +kernel
theorem dX11_next_45 : decode cX11_next 45 = .ok (.getfield 18, 3) := by decide +kernel
theorem dX11_next_48 : decode cX11_next 48 = .ok (.aload_n 0, 1) := by decide +kernel
theorem dX11_next_49 : decode cX11_next 49 = .ok (.getfield 24, 3) := by decide +kernel
theorem dX11_next_52 : decode cX11_next 52 = .ok (.if_icmp .le 28, 3) := by decide +kernel
theorem dX11_next_55 : decode cX11_next 55 = .ok (.aload_n 0, 1) := by decide +kernel
theorem dX11_next_56 : decode cX11_next 56 = .ok (.getfield 21, 3) := by decide +kernel
theorem dX11_next_59 : decode cX11_next 59 = .ok (.aload_n 0, 1) := by decide +kernel
theorem dX11_next_60 : decode cX11_next 60 = .ok (.getfield 24, 3) := by decide +kernel
theorem dX11_next_63 : decode cX11_next 63 = .ok (.if_icmp .lt 17, 3) := by decide +kernel
theorem dX11_next_66 : decode cX11_next 66 = .ok (.aload_n 0, 1) := by decide +kernel
theorem dX11_next_67 : decode cX11_next 67 = .ok (.aload_n 0, 1) := by decide +kernel
theorem dX11_next_68 : decode cX11_next 68 = .ok (.getfield 24, 3) := by decide +kernel
theorem dX11_next_71 : decode cX11_next 71 = .ok (.putfield 156, 3) := by decide +kernel
theorem dX11_next_74 : decode cX11_next 74 = .ok (.aload_n 0, 1) := by decide +kernel
theorem dX11_next_75 : decode cX11_next 75 = .ok (.iconst 4, 1) := by decide +kernel
theorem dX11_next_76 : decode cX11_next 76 = .ok (.putfield 162, 3) := by decide +kernel
theorem dX11_next_79 : decode cX11_next 79 = .ok (.return_, 1) := by decide +kernel
theorem dX11_next_80 : decode cX11_next 80 = .ok (.aload_n 0, 1) := by decide +kernel
theorem dX11_next_81 : decode cX11_next 81 = .ok (.invokevirtual 152, 3) := by decide +kernel
theorem dX11_next_84 : decode cX11_next 84 = .ok (.istore_n 1, 1) := by decide +kernel
theorem dX11_next_85 : decode cX11_next 85 = .ok (.iload_n 1, 1) := by decide +kernel
theorem dX11_next_86 : decode cX11_next 86 = .ok (.ifCond .ge 9, 3) := by decide +kernel
theorem dX11_next_89 : decode cX11_next 89 = .ok (.aload_n 0, 1) := by decide +kernel
theorem dX11_next_90 : decode cX11_next 90 = .ok (.iconst 0, 1) := by decide +kernel
theorem dX11_next_91 : decode cX11_next 91 = .ok (.putfield 162, 3) := by decide +kernel
theorem dX11_next_94 : decode cX11_next 94 = .ok (.return_, 1) := by decide +kernel
theorem dX11_next_95 : decode cX11_next 95 = .ok (.iload_n 1, 1) := by decide +kernel
theorem dX11_next_96 : decode cX11_next 96 = .ok (.invokestatic 165, 3) := by decide +kernel
theorem dX11_next_99 : decode cX11_next 99 = .ok (.ifCond .ne 65, 3) := by decide +kernel
theorem dX11_next_102 : decode cX11_next 102 = .ok (.iload_n 1, 1) := by decide +kernel
theorem dX11_next_103 : decode cX11_next 103 = .ok (.invokestatic 169, 3) := by decide +kernel
theorem dX11_next_106 : decode cX11_next 106 = .ok (.ifCond .ne 58, 3) := by decide +kernel
theorem dX11_next_109 : decode cX11_next 109 = .ok (.aload_n 0, 1) := by decide +kernel
theorem dX11_next_110 : decode cX11_next 110 = .ok (.iload_n 1, 1) := by decide +kernel
theorem dX11_next_111 : decode cX11_next 111 = .ok (.bipush 59, 2) := by decide +kernel
theorem dX11_next_113 : decode cX11_next 113 = .ok (.if_icmp .eq 27, 3) := by decide +kernel
theorem dX11_next_116 : decode cX11_next 116 = .ok (.iload_n 1, 1) := by decide +kernel
theorem dX11_next_117 : decode cX11_next 117 = .ok (.bipush 40, 2) := by decide +kernel
theorem dX11_next_119 : decode cX11_next 119 = .ok (.if_icmp .eq 21, 3) := by decide +kernel
theorem dX11_next_122 : decode cX11_next 122 = .ok (.iload_n 1, 1) := by decide +kernel
theorem dX11_next_123 : decode cX11_next 123 = .ok (.bipush 41, 2) := by decide +kernel
theorem dX11_next_125 : decode cX11_next 125 = .ok (.if_icmp .eq 15, 3) := by decide +kernel
theorem dX11_next_128 : decode cX11_next 128 = .ok (.iload_n 1, 1) := by decide +kernel
theorem dX11_next_129 : decode cX11_next 129 = .ok (.bipush 60, 2) := by decide +kernel
theorem dX11_next_131 : decode cX11_next 131 = .ok (.if_icmp .lt 13, 3) := by decide +kernel
theorem dX11_next_134 : decode cX11_next 134 = .ok (.iload_n 1, 1) := by decide +kernel
theorem dX11_next_135 : decode cX11_next 135 = .ok (.bipush 62, 2) := by decide +kernel
theorem dX11_next_137 : decode cX11_next 137 = .ok (.if_icmp .gt 7, 3) := by decide +kernel
theorem dX11_next_140 : decode cX11_next 140 = .ok (.iconst 3, 1) := by decide +kernel
theorem dX11_next_141 : decode cX11_next 141 = .ok (.goto 4, 3) := by decide +kernel
theorem dX11_next_144 : decode cX11_next 144 = .ok (.iconst 4, 1) := by decide +kernel
theorem dX11_next_145 : decode cX11_next 145 = .ok (.putfield 162, 3) := by decide +kernel
theorem dX11_next_148 : decode cX11_next 148 = .ok (.aload_n 0, 1) := by decide +kernel
theorem dX11_next_149 : decode cX11_next 149 = .ok (.iload_n 1, 1) := by decide +kernel
theorem dX11_next_150 : decode cX11_next 150 = .ok (.putfield 172, 3) := by decide +kernel
theorem dX11_next_153 : decode cX11_next 153 = .ok (.aload_n 0, 1) := by decide +kernel
theorem dX11_next_154 : decode cX11_next 154 = .ok (.dup, 1) := by decide +kernel
theorem dX11_next_155 : decode cX11_next 155 = .ok (.getfield 21, 3) := by decide +kernel
theorem dX11_next_158 : decode cX11_next 158 = .ok (.iconst 1, 1) := by decide +kernel
theorem dX11_next_159 : decode cX11_next 159 = .ok (.iadd, 1) := by decide +kernel
theorem dX11_next_160 : decode cX11_next 160 = .ok (.putfield 21, 3) := by decide +kernel
theorem dX11_next_163 : decode cX11_next 163 = .ok (.return_, 1) := by decide +kernel
theorem dX11_next_164 : decode cX11_next 164 = .ok (.iload_n 1, 1) := by decide +kernel
theorem dX11_next_165 : decode cX11_next 165 = .ok (.invokestatic 165, 3) := by decide +kernel
theorem dX11_next_168 : decode cX11_next 168 = .ok (.istore_n 2, 1) := by decide +kernel
theorem dX11_next_169 : decode cX11_next 169 = .ok (.iconst 1, 1) := by decide +kernel
theorem dX11_next_170 : decode cX11_next 170 = .ok (.istore_n 3, 1) := by decide +kernel
theorem dX11_next_171 : decode cX11_next 171 = .ok (.aload_n 0, 1) := by decide +kernel
theorem dX11_next_172 : decode cX11_next 172 = .ok (.lconst 0, 1) := by decide +kernel
theorem dX11_next_173 : decode cX11_next 173 = .ok (.putfield 175, 3) := by decide +kernel
theorem dX11_next_176 : decode cX11_next 176 = .ok (.aload_n 0, 1) := by decide +kernel
theorem dX11_next_177 : decode cX11_next 177 = .ok (.iconst 0, 1) := by decide +kernel
theorem dX11_next_178 : decode cX11_next 178 = .ok (.putfield 172, 3) := by decide +kernel
theorem dX11_next_181 : decode cX11_next 181 = .ok (.aload_n 0, 1) := by decide +kernel
theorem dX11_next_182 : decode cX11_next 182 = .ok (.invokevirtual 152, 3) := by decide +kernel
theorem dX11_next_185 : decode cX11_next 185 = .ok (.invokestatic 165, 3) := by decide +kernel
theorem dX11_next_188 : decode cX11_next 188 = .ok (.ifCond .ne 13, 3) := by decide +kernel
theorem dX11_next_191 : decode cX11_next 191 = .ok (.aload_n 0, 1) := by decide +kernel
theorem dX11_next_192 : decode cX11_next 192 = .ok (.invokevirtual 152, 3) := by decide +kernel
theorem dX11_next_195 : decode cX11_next 195 = .ok (.invokestatic 169, 3) := by decide +kernel
theorem dX11_next_198 : decode cX11_next 198 = .ok (.ifCond .eq 100, 3) := by decide +kernel
theorem dX11_next_201 : decode cX11_next 201 = .ok (.iload_n 3, 1) := by decide +kernel
theorem dX11_next_202 : decode cX11_next 202 = .ok (.ifCond .eq 18, 3) := by decide +kernel
theorem dX11_next_205 : decode cX11_next 205 = .ok (.aload_n 0, 1) := by decide +kernel
theorem dX11_next_206 : decode cX11_next 206 = .ok (.invokevirtual 152, 3) := by decide +kernel
theorem dX11_next_209 : decode cX11_next 209 = .ok (.invokestatic 165, 3) := by decide +kernel
theorem dX11_next_212 : decode cX11_next 212 = .ok (.iload_n 2, 1) := by decide +kernel
theorem dX11_next_213 : decode cX11_next 213 = .ok (.if_icmp .ne 7, 3) := by decide +kernel
theorem dX11_next_216 : decode cX11_next 216 = .ok (.iconst 1, 1) := by decide +kernel
theorem dX11_next_217 : decode cX11_next 217 = .ok (.goto 4, 3) := by decide +kernel
theorem dX11_next_220 : decode cX11_next 220 = .ok (.iconst 0, 1) := by decide +kernel
theorem dX11_next_221 : decode cX11_next 221 = .ok (.istore_n 3, 1) := by decide +kernel
theorem dX11_next_222 : decode cX11_next 222 = .ok (.aload_n 0, 1) := by decide +kernel
theorem dX11_next_223 : decode cX11_next 223 = .ok (.getfield 159, 3) := by decide +kernel
theorem dX11_next_226 : decode cX11_next 226 = .ok (.bipush 7, 2) := by decide +kernel
theorem dX11_next_228 : decode cX11_next 228 = .ok (.if_icmp .ge 20, 3) := by decide +kernel
theorem dX11_next_231 : decode cX11_next 231 = .ok (.aload_n 0, 1) := by decide +kernel
theorem dX11_next_232 : decode cX11_next 232 = .ok (.aload_n 0, 1) := by decide +kernel
theorem dX11_next_233 : decode cX11_next 233 = .ok (.getfield 175, 3) := by decide +kernel
theorem dX11_next_236 : decode cX11_next 236 = .ok (.bipush 8, 2) := by decide +kernel
theorem dX11_next_238 : decode cX11_next 238 = .ok (.lshl, 1) := by decide +kernel
theorem dX11_next_239 : decode cX11_next 239 = .ok (.aload_n 0, 1) := by decide +kernel
theorem dX11_next_240 : decode cX11_next 240 = .ok (.invokevirtual 152, 3) := by decide +kernel
theorem dX11_next_243 : decode cX11_next 243 = .ok (.i2l, 1) := by decide +kernel
theorem dX11_next_244 : decode cX11_next 244 = .ok (.lor, 1) := by decide +kernel
theorem dX11_next_245 : decode cX11_next 245 = .ok (.putfield 175, 3) := by decide +kernel
theorem dX11_next_248 : decode cX11_next 248 = .ok (.aload_n 0, 1) := by decide +kernel
theorem dX11_next_249 : decode cX11_next 249 = .ok (.getfield 159, 3) := by decide +kernel
theorem dX11_next_252 : decode cX11_next 252 = .ok (.iconst 3, 1) := by decide +kernel
theorem dX11_next_253 : decode cX11_next 253 = .ok (.if_icmp .ge 22, 3) := by decide +kernel
theorem dX11_next_256 : decode cX11_next 256 = .ok (.aload_n 0, 1) := by decide +kernel
theorem dX11_next_257 : decode cX11_next 257 = .ok (.bipush 10, 2) := by decide +kernel
theorem dX11_next_259 : decode cX11_next 259 = .ok (.aload_n 0, 1) := by decide +kernel
theorem dX11_next_260 : decode cX11_next 260 = .ok (.getfield 172, 3) := by decide +kernel
theorem dX11_next_263 : decode cX11_next 263 = .ok (.imul, 1) := by decide +kernel
theorem dX11_next_264 : decode cX11_next 264 = .ok (.aload_n 0, 1) := by decide +kernel
theorem dX11_next_265 : decode cX11_next 265 = .ok (.invokevirtual 152, 3) := by decide +kernel
theorem dX11_next_268 : decode cX11_next 268 = .ok (.iadd, 1) := by decide +kernel
theorem dX11_next_269 : decode cX11_next 269 = .ok (.bipush 48, 2) := by decide +kernel
theorem dX11_next_271 : decode cX11_next 271 = .ok (.isub, 1) := by decide +kernel
theorem dX11_next_272 : decode cX11_next 272 = .ok (.putfield 172, 3) := by decide +kernel
theorem dX11_next_275 : decode cX11_next 275 = .ok (.aload_n 0, 1) := by decide +kernel
theorem dX11_next_276 : decode cX11_next 276 = .ok (.dup, 1) := by decide +kernel
theorem dX11_next_277 : decode cX11_next 277 = .ok (.getfield 159, 3) := by decide +kernel
theorem dX11_next_280 : decode cX11_next 280 = .ok (.iconst 1, 1) := by decide +kernel
theorem dX11_next_281 : decode cX11_next 281 = .ok (.iadd, 1) := by decide +kernel
theorem dX11_next_282 : decode cX11_next 282 = .ok (.putfield 159, 3) := by decide +kernel
theorem dX11_next_285 : decode cX11_next 285 = .ok (.aload_n 0, 1) := by decide +kernel
theorem dX11_next_286 : decode cX11_next 286 = .ok (.dup, 1) := by decide +kernel
theorem dX11_next_287 : decode cX11_next 287 = .ok (.getfield 21, 3) := by decide +kernel
theorem dX11_next_290 : decode cX11_next 290 = .ok (.iconst 1, 1) := by decide +kernel
theorem dX11_next_291 : decode cX11_next 291 = .ok (.iadd, 1) := by decide +kernel
theorem dX11_next_292 : decode cX11_next 292 = .ok (.putfield 21, 3) := by decide +kernel
theorem dX11_next_295 : decode cX11_next 295 = .ok (.goto (-114), 3) := by decide +kernel
theorem dX11_next_298 : decode cX11_next 298 = .ok (.aload_n 0, 1) := by decide +kernel
theorem dX11_next_299 : decode cX11_next 299 = .ok (.iload_n 3, 1) := by decide +kernel
theorem dX11_next_300 : decode cX11_next 300 = .ok (.ifCond .eq 20, 3) := by decide +kernel
theorem dX11_next_303 : decode cX11_next 303 = .ok (.aload_n 0, 1) := by decide +kernel
theorem dX11_next_304 : decode cX11_next 304 = .ok (.getfield 159, 3) := by decide +kernel
theorem dX11_next_307 : decode cX11_next 307 = .ok (.iload_n 2, 1) := by decide +kernel
theorem dX11_next_308 : decode cX11_next 308 = .ok (.ifCond .eq 8, 3) := by decide +kernel
theorem dX11_next_311 : decode cX11_next 311 = .ok (.bipush 7, 2) := by decide +kernel
theorem dX11_next_313 : decode cX11_next 313 = .ok (.goto 4, 3) := by decide +kernel
theorem dX11_next_316 : decode cX11_next 316 = .ok (.iconst 3, 1) := by decide +kernel
theorem dX11_next_317 : decode cX11_next 317 = .ok (.if_icmp .le 7, 3) := by decide +kernel
theorem dX11_next_320 : decode cX11_next 320 = .ok (.iconst 4, 1) := by decide +kernel
theorem dX11_next_321 : decode cX11_next 321 = .ok (.goto 12, 3) := by decide +kernel
theorem dX11_next_324 : decode cX11_next 324 = .ok (.iload_n 2, 1) := by decide +kernel
theorem dX11_next_325 : decode cX11_next 325 = .ok (.ifCond .eq 7, 3) := by decide +kernel
theorem dX11_next_328 : decode cX11_next 328 = .ok (.iconst 1, 1) := by decide +kernel
theorem dX11_next_329 : decode cX11_next 329 = .ok (.goto 4, 3) := by decide +kernel
theorem dX11_next_332 : decode cX11_next 332 = .ok (.iconst 2, 1) := by decide +kernel
theorem dX11_next_333 : decode cX11_next 333 = .ok (.putfield 162, 3) := by decide +kernel
theorem dX11_next_336 : decode cX11_next 336 = .ok (.return_, 1) := by decide +kernel
theorem dX11_bad_0 : decode cX11_bad 0 = .ok (.aload_n 0, 1) := by decide +kernel
theorem dX11_bad_1 : decode cX11_bad 1 = .ok (.iload_n 1, 1) := by decide +kernel
theorem dX11_bad_2 : decode cX11_bad 2 = .ok (.putfield 179, 3) := by decide +kernel
theorem dX11_bad_5 : decode cX11_bad 5 = .ok (.aload_n 0, 1) := by decide +kernel
theorem dX11_bad_6 : decode cX11_bad 6 = .ok (.aload_n 0, 1) := by decide +kernel
theorem dX11_bad_7 : decode cX11_bad 7 = .ok (.getfield 156, 3) := by decide +kernel
theorem dX11_bad_10 : decode cX11_bad 10 = .ok (.putfield 182, 3) := by decide +kernel
theorem dX11_bad_13 : decode cX11_bad 13 = .ok (.iconst 0, 1) := by decide +kernel
theorem dX11_bad_14 : decode cX11_bad 14 = .ok (.ireturn, 1) := by decide +kernel
theorem dX11_isWord_0 : decode cX11_isWord 0 = .ok (.aload_n 0, 1) := by decide +kernel
theorem dX11_isWord_1 : decode cX11_isWord 1 = .ok (.getfield 162, 3) := by decide +kernel
theorem dX11_isWord_4 : decode cX11_isWord 4 = .ok (.iconst 1, 1) := by decide +kernel
theorem dX11_isWord_5 : decode cX11_isWord 5 = .ok (.if_icmp .ne 16, 3) := by decide +kernel
theorem dX11_isWord_8 : decode cX11_isWord 8 = .ok (.aload_n 0, 1) := by decide +kernel
theorem dX11_isWord_9 : decode cX11_isWord 9 = .ok (.getfield 175, 3) := by decide +kernel
theorem dX11_isWord_12 : decode cX11_isWord 12 = .ok (.lload_n 1, 1) := by decide +kernel
theorem dX11_isWord_13 : decode cX11_isWord 13 = .ok (.lcmp, 1) := by decide +kernel
theorem dX11_isWord_14 : decode cX11_isWord 14 = .ok (.ifCond .ne 7, 3) := by decide +kernel
theorem dX11_isWord_17 : decode cX11_isWord 17 = .ok (.iconst 1, 1) := by decide +kernel
theorem dX11_isWord_18 : decode cX11_isWord 18 = .ok (.goto 4, 3) := by decide +kernel
theorem dX11_isWord_21 : decode cX11_isWord 21 = .ok (.iconst 0, 1) := by decide +kernel
theorem dX11_isWord_22 : decode cX11_isWord 22 = .ok (.ireturn, 1) := by decide +kernel
theorem dX11_isSign_0 : decode cX11_isSign 0 = .ok (.aload_n 0, 1) := by decide +kernel
theorem dX11_isSign_1 : decode cX11_isSign 1 = .ok (.getfield 162, 3) := by decide +kernel
theorem dX11_isSign_4 : decode cX11_isSign 4 = .ok (.iconst 3, 1) := by decide +kernel
theorem dX11_isSign_5 : decode cX11_isSign 5 = .ok (.if_icmp .ne 15, 3) := by decide +kernel
theorem dX11_isSign_8 : decode cX11_isSign 8 = .ok (.aload_n 0, 1) := by decide +kernel
theorem dX11_isSign_9 : decode cX11_isSign 9 = .ok (.getfield 172, 3) := by decide +kernel
theorem dX11_isSign_12 : decode cX11_isSign 12 = .ok (.iload_n 1, 1) := by decide +kernel
theorem dX11_isSign_13 : decode cX11_isSign 13 = .ok (.if_icmp .ne 7, 3) := by decide +kernel
theorem dX11_isSign_16 : decode cX11_isSign 16 = .ok (.iconst 1, 1) := by decide +kernel
theorem dX11_isSign_17 : decode cX11_isSign 17 = .ok (.goto 4, 3) := by decide +kernel
theorem dX11_isSign_20 : decode cX11_isSign 20 = .ok (.iconst 0, 1) := by decide +kernel
theorem dX11_isSign_21 : decode cX11_isSign 21 = .ok (.ireturn, 1) := by decide +kernel
theorem dX11_sign_0 : decode cX11_sign 0 = .ok (.aload_n 0, 1) := by decide +kernel
theorem dX11_sign_1 : decode cX11_sign 1 = .ok (.iload_n 1, 1) := by decide +kernel
theorem dX11_sign_2 : decode cX11_sign 2 = .ok (.invokevirtual 185, 3) := by decide +kernel
theorem dX11_sign_5 : decode cX11_sign 5 = .ok (.ifCond .ne 9, 3) := by decide +kernel
theorem dX11_sign_8 : decode cX11_sign 8 = .ok (.aload_n 0, 1) := by decide +kernel
theorem dX11_sign_9 : decode cX11_sign 9 = .ok (.iconst 1, 1) := by decide +kernel
theorem dX11_sign_10 : decode cX11_sign 10 = .ok (.invokevirtual 188, 3) := by decide +kernel
theorem dX11_sign_13 : decode cX11_sign 13 = .ok (.ireturn, 1) := by decide +kernel
theorem dX11_sign_14 : decode cX11_sign 14 = .ok (.aload_n 0, 1) := by decide +kernel
theorem dX11_sign_15 : decode cX11_sign 15 = .ok (.invokevirtual 191, 3) := by decide +kernel
theorem dX11_sign_18 : decode cX11_sign 18 = .ok (.iconst 1, 1) := by decide +kernel
theorem dX11_sign_19 : decode cX11_sign 19 = .ok (.ireturn, 1) := by decide +kernel
theorem dX11_isName_0 : decode cX11_isName 0 = .ok (.aload_n 0, 1) := by decide +kernel
theorem dX11_isName_1 : decode cX11_isName 1 = .ok (.getfield 162, 3) := by decide +kernel
theorem dX11_isName_4 : decode cX11_isName 4 = .ok (.iconst 1, 1) := by decide +kernel
theorem dX11_isName_5 : decode cX11_isName 5 = .ok (.if_icmp .ne 7, 3) := by decide +kernel
theorem dX11_isName_8 : decode cX11_isName 8 = .ok (.iconst 1, 1) := by decide +kernel
theorem dX11_isName_9 : decode cX11_isName 9 = .ok (.goto 4, 3) := by decide +kernel
theorem dX11_isName_12 : decode cX11_isName 12 = .ok (.iconst 0, 1) := by decide +kernel
theorem dX11_isName_13 : decode cX11_isName 13 = .ok (.istore_n 1, 1) := by decide +kernel
theorem dX11_isName_14 : decode cX11_isName 14 = .ok (.iconst 0, 1) := by decide +kernel
theorem dX11_isName_15 : decode cX11_isName 15 = .ok (.istore_n 2, 1) := by decide +kernel
theorem dX11_isName_16 : decode cX11_isName 16 = .ok (.iload_n 2, 1) := by decide +kernel
theorem dX11_isName_17 : decode cX11_isName 17 = .ok (.bipush 20, 2) := by decide +kernel
theorem dX11_isName_19 : decode cX11_isName 19 = .ok (.if_icmp .ge 33, 3) := by decide +kernel
theorem dX11_isName_22 : decode cX11_isName 22 = .ok (.iload_n 1, 1) := by decide +kernel
theorem dX11_isName_23 : decode cX11_isName 23 = .ok (.ifCond .eq 21, 3) := by decide +kernel
theorem dX11_isName_26 : decode cX11_isName 26 = .ok (.aload_n 0, 1) := by decide +kernel
theorem dX11_isName_27 : decode cX11_isName 27 = .ok (.getfield 175, 3) := by decide +kernel
theorem dX11_isName_30 : decode cX11_isName 30 = .ok (.aload_n 0, 1) := by decide +kernel
theorem dX11_isName_31 : decode cX11_isName 31 = .ok (.getfield 47, 3) := by decide +kernel
theorem dX11_isName_34 : decode cX11_isName 34 = .ok (.iload_n 2, 1) := by decide +kernel
theorem dX11_isName_35 : decode cX11_isName 35 = .ok (.laload, 1) := by decide +kernel
theorem dX11_isName_36 : decode cX11_isName 36 = .ok (.lcmp, 1) := by decide +kernel
theorem dX11_isName_37 : decode cX11_isName 37 = .ok (.ifCond .eq 7, 3) := by decide +kernel
theorem dX11_isName_40 : decode cX11_isName 40 = .ok (.iconst 1, 1) := by decide +kernel
theorem dX11_isName_41 : decode cX11_isName 41 = .ok (.goto 4, 3) := by decide +kernel
theorem dX11_isName_44 : decode cX11_isName 44 = .ok (.iconst 0, 1) := by decide +kernel
theorem dX11_isName_45 : decode cX11_isName 45 = .ok (.istore_n 1, 1) := by decide +kernel
theorem dX11_isName_46 : decode cX11_isName 46 = .ok (.iinc 2 1, 3) := by decide +kernel
theorem dX11_isName_49 : decode cX11_isName 49 = .ok (.goto (-33), 3) := by decide +kernel
theorem dX11_isName_52 : decode cX11_isName 52 = .ok (.iload_n 1, 1) := by decide +kernel
theorem dX11_isName_53 : decode cX11_isName 53 = .ok (.ireturn, 1) := by decide +kernel
theorem dX11_takes_0 : decode cX11_takes 0 = .ok (.aload_n 0, 1) := by decide +kernel
theorem dX11_takes_1 : decode cX11_takes 1 = .ok (.getfield 162, 3) := by decide +kernel
theorem dX11_takes_4 : decode cX11_takes 4 = .ok (.iconst 2, 1) := by decide +kernel
theorem dX11_takes_5 : decode cX11_takes 5 = .ok (.if_icmp .eq 9, 3) := by decide +kernel
theorem dX11_takes_8 : decode cX11_takes 8 = .ok (.aload_n 0, 1) := by decide +kernel
theorem dX11_takes_9 : decode cX11_takes 9 = .ok (.iconst 1, 1) := by decide +kernel
theorem dX11_takes_10 : decode cX11_takes 10 = .ok (.invokevirtual 188, 3) := by decide +kernel
theorem dX11_takes_13 : decode cX11_takes 13 = .ok (.ireturn, 1) := by decide +kernel
theorem dX11_takes_14 : decode cX11_takes 14 = .ok (.aload_n 0, 1) := by decide +kernel
theorem dX11_takes_15 : decode cX11_takes 15 = .ok (.getfield 172, 3) := by decide +kernel
theorem dX11_takes_18 : decode cX11_takes 18 = .ok (.iload_n 1, 1) := by decide +kernel
theorem dX11_takes_19 : decode cX11_takes 19 = .ok (.iload_n 2, 1) := by decide +kernel
theorem dX11_takes_20 : decode cX11_takes 20 = .ok (.invokestatic 194, 3) := by decide +kernel
theorem dX11_takes_23 : decode cX11_takes 23 = .ok (.ifCond .ne 9, 3) := by decide +kernel
theorem dX11_takes_26 : decode cX11_takes 26 = .ok (.aload_n 0, 1) := by decide +kernel
theorem dX11_takes_27 : decode cX11_takes 27 = .ok (.iconst 2, 1) := by decide +kernel
theorem dX11_takes_28 : decode cX11_takes 28 = .ok (.invokevirtual 188, 3) := by decide +kernel
theorem dX11_takes_31 : decode cX11_takes 31 = .ok (.ireturn, 1) := by decide +kernel
theorem dX11_takes_32 : decode cX11_takes 32 = .ok (.aload_n 0, 1) := by decide +kernel
theorem dX11_takes_33 : decode cX11_takes 33 = .ok (.aload_n 0, 1) := by decide +kernel
theorem dX11_takes_34 : decode cX11_takes 34 = .ok (.getfield 172, 3) := by decide +kernel
theorem dX11_takes_37 : decode cX11_takes 37 = .ok (.putfield 198, 3) := by decide +kernel
theorem dX11_takes_40 : decode cX11_takes 40 = .ok (.aload_n 0, 1) := by decide +kernel
theorem dX11_takes_41 : decode cX11_takes 41 = .ok (.invokevirtual 191, 3) := by decide +kernel
theorem dX11_takes_44 : decode cX11_takes 44 = .ok (.iconst 1, 1) := by decide +kernel
theorem dX11_takes_45 : decode cX11_takes 45 = .ok (.ireturn, 1) := by decide +kernel
theorem dX11_find_0 : decode cX11_find 0 = .ok (.iconst 0, 1) := by decide +kernel
theorem dX11_find_1 : decode cX11_find 1 = .ok (.istore_n 3, 1) := by decide +kernel
theorem dX11_find_2 : decode cX11_find 2 = .ok (.iload_n 3, 1) := by decide +kernel
theorem dX11_find_3 : decode cX11_find 3 = .ok (.iload_n 2, 1) := by decide +kernel
theorem dX11_find_4 : decode cX11_find 4 = .ok (.if_icmp .ge 27, 3) := by decide +kernel
theorem dX11_find_7 : decode cX11_find 7 = .ok (.aload_n 0, 1) := by decide +kernel
theorem dX11_find_8 : decode cX11_find 8 = .ok (.getfield 43, 3) := by decide +kernel
theorem dX11_find_11 : decode cX11_find 11 = .ok (.iload_n 1, 1) := by decide +kernel
theorem dX11_find_12 : decode cX11_find 12 = .ok (.iload_n 3, 1) := by decide +kernel
theorem dX11_find_13 : decode cX11_find 13 = .ok (.iadd, 1) := by decide +kernel
theorem dX11_find_14 : decode cX11_find 14 = .ok (.laload, 1) := by decide +kernel
theorem dX11_find_15 : decode cX11_find 15 = .ok (.aload_n 0, 1) := by decide +kernel
theorem dX11_find_16 : decode cX11_find 16 = .ok (.getfield 175, 3) := by decide +kernel
theorem dX11_find_19 : decode cX11_find 19 = .ok (.lcmp, 1) := by decide +kernel
theorem dX11_find_20 : decode cX11_find 20 = .ok (.ifCond .ne 5, 3) := by decide +kernel
theorem dX11_find_23 : decode cX11_find 23 = .ok (.iload_n 3, 1) := by decide +kernel
theorem dX11_find_24 : decode cX11_find 24 = .ok (.ireturn, 1) := by decide +kernel
theorem dX11_find_25 : decode cX11_find 25 = .ok (.iinc 3 1, 3) := by decide +kernel
theorem dX11_find_28 : decode cX11_find 28 = .ok (.goto (-26), 3) := by decide +kernel
theorem dX11_find_31 : decode cX11_find 31 = .ok (.iconst (-1), 1) := by decide +kernel
theorem dX11_find_32 : decode cX11_find 32 = .ok (.ireturn, 1) := by decide +kernel
theorem dX11_looksAtCell_0 : decode cX11_looksAtCell 0 = .ok (.aload_n 0, 1) := by decide +kernel
theorem dX11_looksAtCell_1 : decode cX11_looksAtCell 1 = .ok (.iconst 0, 1) := by decide +kernel
theorem dX11_looksAtCell_2 : decode cX11_looksAtCell 2 = .ok (.aload_n 0, 1) := by decide +kernel
theorem dX11_looksAtCell_3 : decode cX11_looksAtCell 3 = .ok (.getfield 37, 3) := by decide +kernel
theorem dX11_looksAtCell_6 : decode cX11_looksAtCell 6 = .ok (.iconst 0, 1) := by decide +kernel
theorem dX11_looksAtCell_7 : decode cX11_looksAtCell 7 = .ok (.iaload, 1) := by decide +kernel
theorem dX11_looksAtCell_8 : decode cX11_looksAtCell 8 = .ok (.iconst 1, 1) := by decide +kernel
theorem dX11_looksAtCell_9 : decode cX11_looksAtCell 9 = .ok (.isub, 1) := by decide +kernel
theorem dX11_looksAtCell_10 : decode cX11_looksAtCell 10 = .ok (.invokevirtual 209, 3) := by decide +kernel
theorem dX11_looksAtCell_13 : decode cX11_looksAtCell 13 = .ok (.ifCond .ne 5, 3) := by decide +kernel
theorem dX11_looksAtCell_16 : decode cX11_looksAtCell 16 = .ok (.iconst 0, 1) := by decide +kernel
theorem dX11_looksAtCell_17 : decode cX11_looksAtCell 17 = .ok (.ireturn, 1) := by decide +kernel
theorem dX11_looksAtCell_18 : decode cX11_looksAtCell 18 = .ok (.aload_n 0, 1) := by decide +kernel
theorem dX11_looksAtCell_19 : decode cX11_looksAtCell 19 = .ok (.getfield 198, 3) := by decide +kernel
theorem dX11_looksAtCell_22 : decode cX11_looksAtCell 22 = .ok (.istore_n 1, 1) := by decide +kernel
theorem dX11_looksAtCell_23 : decode cX11_looksAtCell 23 = .ok (.aload_n 0, 1) := by decide +kernel
theorem dX11_looksAtCell_24 : decode cX11_looksAtCell 24 = .ok (.getfield 162, 3) := by decide +kernel
theorem dX11_looksAtCell_27 : decode cX11_looksAtCell 27 = .ok (.iconst 2, 1) := by decide +kernel
theorem dX11_looksAtCell_28 : decode cX11_looksAtCell 28 = .ok (.if_icmp .eq 9, 3) := by decide +kernel
theorem dX11_looksAtCell_31 : decode cX11_looksAtCell 31 = .ok (.aload_n 0, 1) := by decide +kernel
theorem dX11_looksAtCell_32 : decode cX11_looksAtCell 32 = .ok (.iconst 1, 1) := by decide +kernel
theorem dX11_looksAtCell_33 : decode cX11_looksAtCell 33 = .ok (.invokevirtual 188, 3) := by decide +kernel
theorem dX11_looksAtCell_36 : decode cX11_looksAtCell 36 = .ok (.ireturn, 1) := by decide +kernel
theorem dX11_looksAtCell_37 : decode cX11_looksAtCell 37 = .ok (.aload_n 0, 1) := by decide +kernel
theorem dX11_looksAtCell_38 : decode cX11_looksAtCell 38 = .ok (.getfield 172, 3) := by decide +kernel
theorem dX11_looksAtCell_41 : decode cX11_looksAtCell 41 = .ok (.aload_n 0, 1) := by decide +kernel
theorem dX11_looksAtCell_42 : decode cX11_looksAtCell 42 = .ok (.getfield 37, 3) := by decide +kernel
theorem dX11_looksAtCell_45 : decode cX11_looksAtCell 45 = .ok (.iconst 1, 1) := by decide +kernel
theorem dX11_looksAtCell_46 : decode cX11_looksAtCell 46 = .ok (.iaload, 1) := by decide +kernel
theorem dX11_looksAtCell_47 : decode cX11_looksAtCell 47 = .ok (.if_icmp .lt 9, 3) := by decide +kernel
theorem dX11_looksAtCell_50 : decode cX11_looksAtCell 50 = .ok (.aload_n 0, 1) := by decide +kernel
theorem dX11_looksAtCell_51 : decode cX11_looksAtCell 51 = .ok (.iconst 2, 1) := by decide +kernel
theorem dX11_looksAtCell_52 : decode cX11_looksAtCell 52 = .ok (.invokevirtual 188, 3) := by decide +kernel
theorem dX11_looksAtCell_55 : decode cX11_looksAtCell 55 = .ok (.ireturn, 1) := by decide +kernel
theorem dX11_looksAtCell_56 : decode cX11_looksAtCell 56 = .ok (.aload_n 0, 1) := by decide +kernel
theorem dX11_looksAtCell_57 : decode cX11_looksAtCell 57 = .ok (.bipush 10, 2) := by decide +kernel
theorem dX11_looksAtCell_59 : decode cX11_looksAtCell 59 = .ok (.aload_n 0, 1) := by decide +kernel
theorem dX11_looksAtCell_60 : decode cX11_looksAtCell 60 = .ok (.getfield 172, 3) := by decide +kernel
theorem dX11_looksAtCell_63 : decode cX11_looksAtCell 63 = .ok (.imul, 1) := by decide +kernel
theorem dX11_looksAtCell_64 : decode cX11_looksAtCell 64 = .ok (.iload_n 1, 1) := by decide +kernel
theorem dX11_looksAtCell_65 : decode cX11_looksAtCell 65 = .ok (.iadd, 1) := by decide +kernel
theorem dX11_looksAtCell_66 : decode cX11_looksAtCell 66 = .ok (.putfield 198, 3) := by decide +kernel
theorem dX11_looksAtCell_69 : decode cX11_looksAtCell 69 = .ok (.iconst 1, 1) := by decide +kernel
theorem dX11_looksAtCell_70 : decode cX11_looksAtCell 70 = .ok (.ireturn, 1) := by decide +kernel
theorem dX11_readCart_0 : decode cX11_readCart 0 = .ok (.aload_n 0, 1) := by decide +kernel
theorem dX11_readCart_1 : decode cX11_readCart 1 = .ok (.getfield 37, 3) := by decide +kernel
theorem dX11_readCart_4 : decode cX11_readCart 4 = .ok (.iconst 3, 1) := by decide +kernel
theorem dX11_readCart_5 : decode cX11_readCart 5 = .ok (.iaload, 1) := by decide +kernel
theorem dX11_readCart_6 : decode cX11_readCart 6 = .ok (.istore_n 1, 1) := by decide +kernel
theorem dX11_readCart_7 : decode cX11_readCart 7 = .ok (.iload_n 1, 1) := by decide +kernel
theorem dX11_readCart_8 : decode cX11_readCart 8 = .ok (.bipush 20, 2) := by decide +kernel
theorem dX11_readCart_10 : decode cX11_readCart 10 = .ok (.if_icmp .ne 9, 3) := by decide +kernel
theorem dX11_readCart_13 : decode cX11_readCart 13 = .ok (.aload_n 0, 1) := by decide +kernel
theorem dX11_readCart_14 : decode cX11_readCart 14 = .ok (.iconst 4, 1) := by decide +kernel
theorem dX11_readCart_15 : decode cX11_readCart 15 = .ok (.invokevirtual 188, 3) := by decide +kernel
theorem dX11_readCart_18 : decode cX11_readCart 18 = .ok (.ireturn, 1) := by decide +kernel
theorem dX11_readCart_19 : decode cX11_readCart 19 = .ok (.aload_n 0, 1) := by decide +kernel
theorem dX11_readCart_20 : decode cX11_readCart 20 = .ok (.invokevirtual 191, 3) := by decide +kernel
theorem dX11_readCart_23 : decode cX11_readCart 23 = .ok (.aload_n 0, 1) := by decide +kernel
theorem dX11_readCart_24 : decode cX11_readCart 24 = .ok (.iconst 0, 1) := by decide +kernel
theorem dX11_readCart_25 : decode cX11_readCart 25 = .ok (.sipush 239, 3) := by decide +kernel
theorem dX11_readCart_28 : decode cX11_readCart 28 = .ok (.invokevirtual 209, 3) := by decide +kernel
theorem dX11_readCart_31 : decode cX11_readCart 31 = .ok (.ifCond .ne 5, 3) := by decide +kernel
theorem dX11_readCart_34 : decode cX11_readCart 34 = .ok (.iconst 0, 1) := by decide +kernel
theorem dX11_readCart_35 : decode cX11_readCart 35 = .ok (.ireturn, 1) := by decide +kernel
theorem dX11_readCart_36 : decode cX11_readCart 36 = .ok (.aload_n 0, 1) := by decide +kernel
theorem dX11_readCart_37 : decode cX11_readCart 37 = .ok (.getfield 37, 3) := by decide +kernel
theorem dX11_readCart_40 : decode cX11_readCart 40 = .ok (.bipush 47, 2) := by decide +kernel
theorem dX11_readCart_42 : decode cX11_readCart 42 = .ok (.iload_n 1, 1) := by decide +kernel
theorem dX11_readCart_43 : decode cX11_readCart 43 = .ok (.iadd, 1) := by decide +kernel
theorem dX11_readCart_44 : decode cX11_readCart 44 = .ok (.aload_n 0, 1) := by decide +kernel
theorem dX11_readCart_45 : decode cX11_readCart 45 = .ok (.getfield 198, 3) := by decide +kernel
theorem dX11_readCart_48 : decode cX11_readCart 48 = .ok (.iastore, 1) := by decide +kernel
theorem dX11_readCart_49 : decode cX11_readCart 49 = .ok (.aload_n 0, 1) := by decide +kernel
theorem dX11_readCart_50 : decode cX11_readCart 50 = .ok (.invokevirtual 230, 3) := by decide +kernel
theorem dX11_readCart_53 : decode cX11_readCart 53 = .ok (.ifCond .ne 5, 3) := by decide +kernel
theorem dX11_readCart_56 : decode cX11_readCart 56 = .ok (.iconst 0, 1) := by decide +kernel
theorem dX11_readCart_57 : decode cX11_readCart 57 = .ok (.ireturn, 1) := by decide +kernel
theorem dX11_readCart_58 : decode cX11_readCart 58 = .ok (.aload_n 0, 1) := by decide +kernel
theorem dX11_readCart_59 : decode cX11_readCart 59 = .ok (.getfield 37, 3) := by decide +kernel
theorem dX11_readCart_62 : decode cX11_readCart 62 = .ok (.bipush 67, 2) := by decide +kernel
theorem dX11_readCart_64 : decode cX11_readCart 64 = .ok (.iload_n 1, 1) := by decide +kernel
theorem dX11_readCart_65 : decode cX11_readCart 65 = .ok (.iadd, 1) := by decide +kernel
theorem dX11_readCart_66 : decode cX11_readCart 66 = .ok (.aload_n 0, 1) := by decide +kernel
theorem dX11_readCart_67 : decode cX11_readCart 67 = .ok (.getfield 198, 3) := by decide +kernel
theorem dX11_readCart_70 : decode cX11_readCart 70 = .ok (.iastore, 1) := by decide +kernel
theorem dX11_readCart_71 : decode cX11_readCart 71 = .ok (.aload_n 0, 1) := by decide +kernel
theorem dX11_readCart_72 : decode cX11_readCart 72 = .ok (.invokevirtual 191, 3) := by decide +kernel
theorem dX11_readCart_75 : decode cX11_readCart 75 = .ok (.aload_n 0, 1) := by decide +kernel
theorem dX11_readCart_76 : decode cX11_readCart 76 = .ok (.iconst 0, 1) := by decide +kernel
theorem dX11_readCart_77 : decode cX11_readCart 77 = .ok (.sipush 400, 3) := by decide +kernel
theorem dX11_readCart_80 : decode cX11_readCart 80 = .ok (.invokevirtual 209, 3) := by decide +kernel
theorem dX11_readCart_83 : decode cX11_readCart 83 = .ok (.ifCond .ne 5, 3) := by decide +kernel
theorem dX11_readCart_86 : decode cX11_readCart 86 = .ok (.iconst 0, 1) := by decide +kernel
theorem dX11_readCart_87 : decode cX11_readCart 87 = .ok (.ireturn, 1) := by decide +kernel
theorem dX11_readCart_88 : decode cX11_readCart 88 = .ok (.aload_n 0, 1) := by decide +kernel
theorem dX11_readCart_89 : decode cX11_readCart 89 = .ok (.getfield 37, 3) := by decide +kernel
theorem dX11_readCart_92 : decode cX11_readCart 92 = .ok (.bipush 87, 2) := by decide +kernel
theorem dX11_readCart_94 : decode cX11_readCart 94 = .ok (.iload_n 1, 1) := by decide +kernel
theorem dX11_readCart_95 : decode cX11_readCart 95 = .ok (.iadd, 1) := by decide +kernel
theorem dX11_readCart_96 : decode cX11_readCart 96 = .ok (.aload_n 0, 1) := by decide +kernel
theorem dX11_readCart_97 : decode cX11_readCart 97 = .ok (.getfield 198, 3) := by decide +kernel
theorem dX11_readCart_100 : decode cX11_readCart 100 = .ok (.iastore, 1) := by decide +kernel
theorem dX11_readCart_101 : decode cX11_readCart 101 = .ok (.aload_n 0, 1) := by decide +kernel
theorem dX11_readCart_102 : decode cX11_readCart 102 = .ok (.iconst 0, 1) := by decide +kernel
theorem dX11_readCart_103 : decode cX11_readCart 103 = .ok (.bipush 9, 2) := by decide +kernel
theorem dX11_readCart_105 : decode cX11_readCart 105 = .ok (.invokevirtual 209, 3) := by decide +kernel
theorem dX11_readCart_108 : decode cX11_readCart 108 = .ok (.ifCond .ne 5, 3) := by decide +kernel
theorem dX11_readCart_111 : decode cX11_readCart 111 = .ok (.iconst 0, 1) := by decide +kernel
theorem dX11_readCart_112 : decode cX11_readCart 112 = .ok (.ireturn, 1) := by decide +kernel
theorem dX11_readCart_113 : decode cX11_readCart 113 = .ok (.aload_n 0, 1) := by decide +kernel
theorem dX11_readCart_114 : decode cX11_readCart 114 = .ok (.getfield 37, 3) := by decide +kernel
theorem dX11_readCart_117 : decode cX11_readCart 117 = .ok (.bipush 107, 2) := by decide +kernel
theorem dX11_readCart_119 : decode cX11_readCart 119 = .ok (.iload_n 1, 1) := by decide +kernel
theorem dX11_readCart_120 : decode cX11_readCart 120 = .ok (.iadd, 1) := by decide +kernel
theorem dX11_readCart_121 : decode cX11_readCart 121 = .ok (.aload_n 0, 1) := by decide +kernel
theorem dX11_readCart_122 : decode cX11_readCart 122 = .ok (.getfield 198, 3) := by decide +kernel
theorem dX11_readCart_125 : decode cX11_readCart 125 = .ok (.iastore, 1) := by decide +kernel
theorem dX11_readCart_126 : decode cX11_readCart 126 = .ok (.aload_n 0, 1) := by decide +kernel
theorem dX11_readCart_127 : decode cX11_readCart 127 = .ok (.getfield 37, 3) := by decide +kernel
theorem dX11_readCart_130 : decode cX11_readCart 130 = .ok (.iconst 3, 1) := by decide +kernel
theorem dX11_readCart_131 : decode cX11_readCart 131 = .ok (.dup2, 1) := by decide +kernel
theorem dX11_readCart_132 : decode cX11_readCart 132 = .ok (.iaload, 1) := by decide +kernel
theorem dX11_readCart_133 : decode cX11_readCart 133 = .ok (.iconst 1, 1) := by decide +kernel
theorem dX11_readCart_134 : decode cX11_readCart 134 = .ok (.iadd, 1) := by decide +kernel
theorem dX11_readCart_135 : decode cX11_readCart 135 = .ok (.iastore, 1) := by decide +kernel
theorem dX11_readCart_136 : decode cX11_readCart 136 = .ok (.iconst 1, 1) := by decide +kernel
theorem dX11_readCart_137 : decode cX11_readCart 137 = .ok (.ireturn, 1) := by decide +kernel
theorem dX11_readOn_0 : decode cX11_readOn 0 = .ok (.aload_n 0, 1) := by decide +kernel
theorem dX11_readOn_1 : decode cX11_readOn 1 = .ok (.getfield 37, 3) := by decide +kernel
theorem dX11_readOn_4 : decode cX11_readOn 4 = .ok (.iload_n 2, 1) := by decide +kernel
theorem dX11_readOn_5 : decode cX11_readOn 5 = .ok (.iaload, 1) := by decide +kernel
theorem dX11_readOn_6 : decode cX11_readOn 6 = .ok (.bipush 12, 2) := by decide +kernel
theorem dX11_readOn_8 : decode cX11_readOn 8 = .ok (.if_icmp .ne 9, 3) := by decide +kernel
theorem dX11_readOn_11 : decode cX11_readOn 11 = .ok (.aload_n 0, 1) := by decide +kernel
theorem dX11_readOn_12 : decode cX11_readOn 12 = .ok (.iconst 4, 1) := by decide +kernel
theorem dX11_readOn_13 : decode cX11_readOn 13 = .ok (.invokevirtual 188, 3) := by decide +kernel
theorem dX11_readOn_16 : decode cX11_readOn 16 = .ok (.ireturn, 1) := by decide +kernel
theorem dX11_readOn_17 : decode cX11_readOn 17 = .ok (.aload_n 0, 1) := by decide +kernel
theorem dX11_readOn_18 : decode cX11_readOn 18 = .ok (.invokevirtual 191, 3) := by decide +kernel
theorem dX11_readOn_21 : decode cX11_readOn 21 = .ok (.aload_n 0, 1) := by decide +kernel
theorem dX11_readOn_22 : decode cX11_readOn 22 = .ok (.invokevirtual 230, 3) := by decide +kernel
theorem dX11_readOn_25 : decode cX11_readOn 25 = .ok (.ifCond .ne 5, 3) := by decide +kernel
theorem dX11_readOn_28 : decode cX11_readOn 28 = .ok (.iconst 0, 1) := by decide +kernel
theorem dX11_readOn_29 : decode cX11_readOn 29 = .ok (.ireturn, 1) := by decide +kernel
theorem dX11_readOn_30 : decode cX11_readOn 30 = .ok (.aload_n 0, 1) := by decide +kernel
theorem dX11_readOn_31 : decode cX11_readOn 31 = .ok (.getfield 37, 3) := by decide +kernel
theorem dX11_readOn_34 : decode cX11_readOn 34 = .ok (.iload_n 1, 1) := by decide +kernel
theorem dX11_readOn_35 : decode cX11_readOn 35 = .ok (.aload_n 0, 1) := by decide +kernel
theorem dX11_readOn_36 : decode cX11_readOn 36 = .ok (.getfield 198, 3) := by decide +kernel
theorem dX11_readOn_39 : decode cX11_readOn 39 = .ok (.iadd, 1) := by decide +kernel
theorem dX11_readOn_40 : decode cX11_readOn 40 = .ok (.iaload, 1) := by decide +kernel
theorem dX11_readOn_41 : decode cX11_readOn 41 = .ok (.iconst 1, 1) := by decide +kernel
theorem dX11_readOn_42 : decode cX11_readOn 42 = .ok (.if_icmp .ne 9, 3) := by decide +kernel
theorem dX11_readOn_45 : decode cX11_readOn 45 = .ok (.aload_n 0, 1) := by decide +kernel
theorem dX11_readOn_46 : decode cX11_readOn 46 = .ok (.iconst 3, 1) := by decide +kernel
theorem dX11_readOn_47 : decode cX11_readOn 47 = .ok (.invokevirtual 188, 3) := by decide +kernel
theorem dX11_readOn_50 : decode cX11_readOn 50 = .ok (.ireturn, 1) := by decide +kernel
theorem dX11_readOn_51 : decode cX11_readOn 51 = .ok (.aload_n 0, 1) := by decide +kernel
theorem dX11_readOn_52 : decode cX11_readOn 52 = .ok (.getfield 37, 3) := by decide +kernel
theorem dX11_readOn_55 : decode cX11_readOn 55 = .ok (.iload_n 1, 1) := by decide +kernel
theorem dX11_readOn_56 : decode cX11_readOn 56 = .ok (.aload_n 0, 1) := by decide +kernel
theorem dX11_readOn_57 : decode cX11_readOn 57 = .ok (.getfield 198, 3) := by decide +kernel
theorem dX11_readOn_60 : decode cX11_readOn 60 = .ok (.iadd, 1) := by decide +kernel
theorem dX11_readOn_61 : decode cX11_readOn 61 = .ok (.iconst 1, 1) := by decide +kernel
theorem dX11_readOn_62 : decode cX11_readOn 62 = .ok (.iastore, 1) := by decide +kernel
theorem dX11_readOn_63 : decode cX11_readOn 63 = .ok (.aload_n 0, 1) := by decide +kernel
theorem dX11_readOn_64 : decode cX11_readOn 64 = .ok (.getfield 37, 3) := by decide +kernel
theorem dX11_readOn_67 : decode cX11_readOn 67 = .ok (.iload_n 2, 1) := by decide +kernel
theorem dX11_readOn_68 : decode cX11_readOn 68 = .ok (.dup2, 1) := by decide +kernel
theorem dX11_readOn_69 : decode cX11_readOn 69 = .ok (.iaload, 1) := by decide +kernel
theorem dX11_readOn_70 : decode cX11_readOn 70 = .ok (.iconst 1, 1) := by decide +kernel
theorem dX11_readOn_71 : decode cX11_readOn 71 = .ok (.iadd, 1) := by decide +kernel
theorem dX11_readOn_72 : decode cX11_readOn 72 = .ok (.iastore, 1) := by decide +kernel
theorem dX11_readOn_73 : decode cX11_readOn 73 = .ok (.aload_n 0, 1) := by decide +kernel
theorem dX11_readOn_74 : decode cX11_readOn 74 = .ok (.invokevirtual 191, 3) := by decide +kernel
theorem dX11_readOn_77 : decode cX11_readOn 77 = .ok (.iconst 1, 1) := by decide +kernel
theorem dX11_readOn_78 : decode cX11_readOn 78 = .ok (.ireturn, 1) := by decide +kernel
theorem dX11_readQuarter_0 : decode cX11_readQuarter 0 = .ok (.aload_n 0, 1) := by decide +kernel
theorem dX11_readQuarter_1 : decode cX11_readQuarter 1 = .ok (.getfield 37, 3) := by decide +kernel
theorem dX11_readQuarter_4 : decode cX11_readQuarter 4 = .ok (.iconst 2, 1) := by decide +kernel
theorem dX11_readQuarter_5 : decode cX11_readQuarter 5 = .ok (.iaload, 1) := by decide +kernel
theorem dX11_readQuarter_6 : decode cX11_readQuarter 6 = .ok (.istore_n 1, 1) := by decide +kernel
theorem dX11_readQuarter_7 : decode cX11_readQuarter 7 = .ok (.iload_n 1, 1) := by decide +kernel
theorem dX11_readQuarter_8 : decode cX11_readQuarter 8 = .ok (.bipush 9, 2) := by decide +kernel
theorem dX11_readQuarter_10 : decode cX11_readQuarter 10 = .ok (.if_icmp .ne 9, 3) := by decide +kernel
theorem dX11_readQuarter_13 : decode cX11_readQuarter 13 = .ok (.aload_n 0, 1) := by decide +kernel
theorem dX11_readQuarter_14 : decode cX11_readQuarter 14 = .ok (.iconst 4, 1) := by decide +kernel
theorem dX11_readQuarter_15 : decode cX11_readQuarter 15 = .ok (.invokevirtual 188, 3) := by decide +kernel
theorem dX11_readQuarter_18 : decode cX11_readQuarter 18 = .ok (.ireturn, 1) := by decide +kernel
theorem dX11_readQuarter_19 : decode cX11_readQuarter 19 = .ok (.aload_n 0, 1) := by decide +kernel
theorem dX11_readQuarter_20 : decode cX11_readQuarter 20 = .ok (.invokevirtual 191, 3) := by decide +kernel
theorem dX11_readQuarter_23 : decode cX11_readQuarter 23 = .ok (.aload_n 0, 1) := by decide +kernel
theorem dX11_readQuarter_24 : decode cX11_readQuarter 24 = .ok (.invokevirtual 223, 3) := by decide +kernel
theorem dX11_readQuarter_27 : decode cX11_readQuarter 27 = .ok (.ifCond .ne 9, 3) := by decide +kernel
theorem dX11_readQuarter_30 : decode cX11_readQuarter 30 = .ok (.aload_n 0, 1) := by decide +kernel
theorem dX11_readQuarter_31 : decode cX11_readQuarter 31 = .ok (.iconst 1, 1) := by decide +kernel
theorem dX11_readQuarter_32 : decode cX11_readQuarter 32 = .ok (.invokevirtual 188, 3) := by decide +kernel
theorem dX11_readQuarter_35 : decode cX11_readQuarter 35 = .ok (.ireturn, 1) := by decide +kernel
theorem dX11_readQuarter_36 : decode cX11_readQuarter 36 = .ok (.aload_n 0, 1) := by decide +kernel
theorem dX11_readQuarter_37 : decode cX11_readQuarter 37 = .ok (.bipush 9, 2) := by decide +kernel
theorem dX11_readQuarter_39 : decode cX11_readQuarter 39 = .ok (.iload_n 1, 1) := by decide +kernel
theorem dX11_readQuarter_40 : decode cX11_readQuarter 40 = .ok (.invokevirtual 226, 3) := by decide +kernel
theorem dX11_readQuarter_43 : decode cX11_readQuarter 43 = .ok (.ifCond .lt 9, 3) := by decide +kernel
theorem dX11_readQuarter_46 : decode cX11_readQuarter 46 = .ok (.aload_n 0, 1) := by decide +kernel
theorem dX11_readQuarter_47 : decode cX11_readQuarter 47 = .ok (.iconst 3, 1) := by decide +kernel
theorem dX11_readQuarter_48 : decode cX11_readQuarter 48 = .ok (.invokevirtual 188, 3) := by decide +kernel
theorem dX11_readQuarter_51 : decode cX11_readQuarter 51 = .ok (.ireturn, 1) := by decide +kernel
theorem dX11_readQuarter_52 : decode cX11_readQuarter 52 = .ok (.aload_n 0, 1) := by decide +kernel
theorem dX11_readQuarter_53 : decode cX11_readQuarter 53 = .ok (.getfield 43, 3) := by decide +kernel
theorem dX11_readQuarter_56 : decode cX11_readQuarter 56 = .ok (.bipush 9, 2) := by decide +kernel
theorem dX11_readQuarter_58 : decode cX11_readQuarter 58 = .ok (.iload_n 1, 1) := by decide +kernel
theorem dX11_readQuarter_59 : decode cX11_readQuarter 59 = .ok (.iadd, 1) := by decide +kernel
theorem dX11_readQuarter_60 : decode cX11_readQuarter 60 = .ok (.aload_n 0, 1) := by decide +kernel
theorem dX11_readQuarter_61 : decode cX11_readQuarter 61 = .ok (.getfield 175, 3) := by decide +kernel
theorem dX11_readQuarter_64 : decode cX11_readQuarter 64 = .ok (.lastore, 1) := by decide +kernel
theorem dX11_readQuarter_65 : decode cX11_readQuarter 65 = .ok (.aload_n 0, 1) := by decide +kernel
theorem dX11_readQuarter_66 : decode cX11_readQuarter 66 = .ok (.invokevirtual 191, 3) := by decide +kernel
theorem dX11_readQuarter_69 : decode cX11_readQuarter 69 = .ok (.aload_n 0, 1) := by decide +kernel
theorem dX11_readQuarter_70 : decode cX11_readQuarter 70 = .ok (.invokevirtual 230, 3) := by decide +kernel
theorem dX11_readQuarter_73 : decode cX11_readQuarter 73 = .ok (.ifCond .ne 5, 3) := by decide +kernel
theorem dX11_readQuarter_76 : decode cX11_readQuarter 76 = .ok (.iconst 0, 1) := by decide +kernel
theorem dX11_readQuarter_77 : decode cX11_readQuarter 77 = .ok (.ireturn, 1) := by decide +kernel
theorem dX11_readQuarter_78 : decode cX11_readQuarter 78 = .ok (.iconst 0, 1) := by decide +kernel
theorem dX11_readQuarter_79 : decode cX11_readQuarter 79 = .ok (.istore_n 2, 1) := by decide +kernel
theorem dX11_readQuarter_80 : decode cX11_readQuarter 80 = .ok (.iload_n 2, 1) := by decide +kernel
theorem dX11_readQuarter_81 : decode cX11_readQuarter 81 = .ok (.iload_n 1, 1) := by decide +kernel
theorem dX11_readQuarter_82 : decode cX11_readQuarter 82 = .ok (.if_icmp .ge 31, 3) := by decide +kernel
theorem dX11_readQuarter_85 : decode cX11_readQuarter 85 = .ok (.aload_n 0, 1) := by decide +kernel
theorem dX11_readQuarter_86 : decode cX11_readQuarter 86 = .ok (.getfield 37, 3) := by decide +kernel
theorem dX11_readQuarter_89 : decode cX11_readQuarter 89 = .ok (.bipush 11, 2) := by decide +kernel
theorem dX11_readQuarter_91 : decode cX11_readQuarter 91 = .ok (.iload_n 2, 1) := by decide +kernel
theorem dX11_readQuarter_92 : decode cX11_readQuarter 92 = .ok (.iadd, 1) := by decide +kernel
theorem dX11_readQuarter_93 : decode cX11_readQuarter 93 = .ok (.iaload, 1) := by decide +kernel
theorem dX11_readQuarter_94 : decode cX11_readQuarter 94 = .ok (.aload_n 0, 1) := by decide +kernel
theorem dX11_readQuarter_95 : decode cX11_readQuarter 95 = .ok (.getfield 198, 3) := by decide +kernel
theorem dX11_readQuarter_98 : decode cX11_readQuarter 98 = .ok (.if_icmp .ne 9, 3) := by decide +kernel
theorem dX11_readQuarter_101 : decode cX11_readQuarter 101 = .ok (.aload_n 0, 1) := by decide +kernel
theorem dX11_readQuarter_102 : decode cX11_readQuarter 102 = .ok (.iconst 3, 1) := by decide +kernel
theorem dX11_readQuarter_103 : decode cX11_readQuarter 103 = .ok (.invokevirtual 188, 3) := by decide +kernel
theorem dX11_readQuarter_106 : decode cX11_readQuarter 106 = .ok (.ireturn, 1) := by decide +kernel
theorem dX11_readQuarter_107 : decode cX11_readQuarter 107 = .ok (.iinc 2 1, 3) := by decide +kernel
theorem dX11_readQuarter_110 : decode cX11_readQuarter 110 = .ok (.goto (-30), 3) := by decide +kernel
theorem dX11_readQuarter_113 : decode cX11_readQuarter 113 = .ok (.aload_n 0, 1) := by decide +kernel
theorem dX11_readQuarter_114 : decode cX11_readQuarter 114 = .ok (.getfield 37, 3) := by decide +kernel
theorem dX11_readQuarter_117 : decode cX11_readQuarter 117 = .ok (.bipush 11, 2) := by decide +kernel
theorem dX11_readQuarter_119 : decode cX11_readQuarter 119 = .ok (.iload_n 1, 1) := by decide +kernel
theorem dX11_readQuarter_120 : decode cX11_readQuarter 120 = .ok (.iadd, 1) := by decide +kernel
theorem dX11_readQuarter_121 : decode cX11_readQuarter 121 = .ok (.aload_n 0, 1) := by decide +kernel
theorem dX11_readQuarter_122 : decode cX11_readQuarter 122 = .ok (.getfield 198, 3) := by decide +kernel
theorem dX11_readQuarter_125 : decode cX11_readQuarter 125 = .ok (.iastore, 1) := by decide +kernel
theorem dX11_readQuarter_126 : decode cX11_readQuarter 126 = .ok (.aload_n 0, 1) := by decide +kernel
theorem dX11_readQuarter_127 : decode cX11_readQuarter 127 = .ok (.invokevirtual 191, 3) := by decide +kernel
theorem dX11_readQuarter_130 : decode cX11_readQuarter 130 = .ok (.aload_n 0, 1) := by decide +kernel
theorem dX11_readQuarter_131 : decode cX11_readQuarter 131 = .ok (.iconst 0, 1) := by decide +kernel
theorem dX11_readQuarter_132 : decode cX11_readQuarter 132 = .ok (.sipush 400, 3) := by decide +kernel
theorem dX11_readQuarter_135 : decode cX11_readQuarter 135 = .ok (.invokevirtual 209, 3) := by decide +kernel
theorem dX11_readQuarter_138 : decode cX11_readQuarter 138 = .ok (.ifCond .ne 5, 3) := by decide +kernel
theorem dX11_readQuarter_141 : decode cX11_readQuarter 141 = .ok (.iconst 0, 1) := by decide +kernel
theorem dX11_readQuarter_142 : decode cX11_readQuarter 142 = .ok (.ireturn, 1) := by decide +kernel
theorem dX11_readQuarter_143 : decode cX11_readQuarter 143 = .ok (.aload_n 0, 1) := by decide +kernel
theorem dX11_readQuarter_144 : decode cX11_readQuarter 144 = .ok (.getfield 37, 3) := by decide +kernel
theorem dX11_readQuarter_147 : decode cX11_readQuarter 147 = .ok (.bipush 20, 2) := by decide +kernel
theorem dX11_readQuarter_149 : decode cX11_readQuarter 149 = .ok (.iload_n 1, 1) := by decide +kernel
theorem dX11_readQuarter_150 : decode cX11_readQuarter 150 = .ok (.iadd, 1) := by decide +kernel
theorem dX11_readQuarter_151 : decode cX11_readQuarter 151 = .ok (.aload_n 0, 1) := by decide +kernel
theorem dX11_readQuarter_152 : decode cX11_readQuarter 152 = .ok (.getfield 198, 3) := by decide +kernel
theorem dX11_readQuarter_155 : decode cX11_readQuarter 155 = .ok (.iastore, 1) := by decide +kernel
theorem dX11_readQuarter_156 : decode cX11_readQuarter 156 = .ok (.aload_n 0, 1) := by decide +kernel
theorem dX11_readQuarter_157 : decode cX11_readQuarter 157 = .ok (.iconst 1, 1) := by decide +kernel
theorem dX11_readQuarter_158 : decode cX11_readQuarter 158 = .ok (.bipush 9, 2) := by decide +kernel
theorem dX11_readQuarter_160 : decode cX11_readQuarter 160 = .ok (.invokevirtual 209, 3) := by decide +kernel
theorem dX11_readQuarter_163 : decode cX11_readQuarter 163 = .ok (.ifCond .ne 5, 3) := by decide +kernel
theorem dX11_readQuarter_166 : decode cX11_readQuarter 166 = .ok (.iconst 0, 1) := by decide +kernel
theorem dX11_readQuarter_167 : decode cX11_readQuarter 167 = .ok (.ireturn, 1) := by decide +kernel
theorem dX11_readQuarter_168 : decode cX11_readQuarter 168 = .ok (.aload_n 0, 1) := by decide +kernel
theorem dX11_readQuarter_169 : decode cX11_readQuarter 169 = .ok (.getfield 37, 3) := by decide +kernel
theorem dX11_readQuarter_172 : decode cX11_readQuarter 172 = .ok (.bipush 29, 2) := by decide +kernel
theorem dX11_readQuarter_174 : decode cX11_readQuarter 174 = .ok (.iload_n 1, 1) := by decide +kernel
theorem dX11_readQuarter_175 : decode cX11_readQuarter 175 = .ok (.iadd, 1) := by decide +kernel
theorem dX11_readQuarter_176 : decode cX11_readQuarter 176 = .ok (.aload_n 0, 1) := by decide +kernel
theorem dX11_readQuarter_177 : decode cX11_readQuarter 177 = .ok (.getfield 198, 3) := by decide +kernel
theorem dX11_readQuarter_180 : decode cX11_readQuarter 180 = .ok (.iastore, 1) := by decide +kernel
theorem dX11_readQuarter_181 : decode cX11_readQuarter 181 = .ok (.aload_n 0, 1) := by decide +kernel
theorem dX11_readQuarter_182 : decode cX11_readQuarter 182 = .ok (.getfield 37, 3) := by decide +kernel
theorem dX11_readQuarter_185 : decode cX11_readQuarter 185 = .ok (.iconst 2, 1) := by decide +kernel
theorem dX11_readQuarter_186 : decode cX11_readQuarter 186 = .ok (.dup2, 1) := by decide +kernel
theorem dX11_readQuarter_187 : decode cX11_readQuarter 187 = .ok (.iaload, 1) := by decide +kernel
theorem dX11_readQuarter_188 : decode cX11_readQuarter 188 = .ok (.iconst 1, 1) := by decide +kernel
theorem dX11_readQuarter_189 : decode cX11_readQuarter 189 = .ok (.iadd, 1) := by decide +kernel
theorem dX11_readQuarter_190 : decode cX11_readQuarter 190 = .ok (.iastore, 1) := by decide +kernel
theorem dX11_readQuarter_191 : decode cX11_readQuarter 191 = .ok (.iconst 1, 1) := by decide +kernel
theorem dX11_readQuarter_192 : decode cX11_readQuarter 192 = .ok (.ireturn, 1) := by decide +kernel
theorem dX11_line_0 : decode cX11_line 0 = .ok (.aload_n 0, 1) := by decide +kernel
theorem dX11_line_1 : decode cX11_line 1 = .ok (.ldc2_w 112, 3) := by decide +kernel
theorem dX11_line_4 : decode cX11_line 4 = .ok (.invokevirtual 201, 3) := by decide +kernel
theorem dX11_line_7 : decode cX11_line 7 = .ok (.ifCond .eq 64, 3) := by decide +kernel
theorem dX11_line_10 : decode cX11_line 10 = .ok (.aload_n 0, 1) := by decide +kernel
theorem dX11_line_11 : decode cX11_line 11 = .ok (.getfield 205, 3) := by decide +kernel
theorem dX11_line_14 : decode cX11_line 14 = .ok (.ifCond .eq 9, 3) := by decide +kernel
theorem dX11_line_17 : decode cX11_line 17 = .ok (.aload_n 0, 1) := by decide +kernel
theorem dX11_line_18 : decode cX11_line 18 = .ok (.iconst 3, 1) := by decide +kernel
theorem dX11_line_19 : decode cX11_line 19 = .ok (.invokevirtual 188, 3) := by decide +kernel
theorem dX11_line_22 : decode cX11_line 22 = .ok (.ireturn, 1) := by decide +kernel
theorem dX11_line_23 : decode cX11_line 23 = .ok (.aload_n 0, 1) := by decide +kernel
theorem dX11_line_24 : decode cX11_line 24 = .ok (.iconst 1, 1) := by decide +kernel
theorem dX11_line_25 : decode cX11_line 25 = .ok (.putfield 205, 3) := by decide +kernel
theorem dX11_line_28 : decode cX11_line 28 = .ok (.aload_n 0, 1) := by decide +kernel
theorem dX11_line_29 : decode cX11_line 29 = .ok (.invokevirtual 191, 3) := by decide +kernel
theorem dX11_line_32 : decode cX11_line 32 = .ok (.iconst 0, 1) := by decide +kernel
theorem dX11_line_33 : decode cX11_line 33 = .ok (.istore_n 1, 1) := by decide +kernel
theorem dX11_line_34 : decode cX11_line 34 = .ok (.iload_n 1, 1) := by decide +kernel
theorem dX11_line_35 : decode cX11_line 35 = .ok (.iconst 2, 1) := by decide +kernel
theorem dX11_line_36 : decode cX11_line 36 = .ok (.if_icmp .ge 33, 3) := by decide +kernel
theorem dX11_line_39 : decode cX11_line 39 = .ok (.aload_n 0, 1) := by decide +kernel
theorem dX11_line_40 : decode cX11_line 40 = .ok (.iconst 2, 1) := by decide +kernel
theorem dX11_line_41 : decode cX11_line 41 = .ok (.bipush 10, 2) := by decide +kernel
theorem dX11_line_43 : decode cX11_line 43 = .ok (.invokevirtual 209, 3) := by decide +kernel
theorem dX11_line_46 : decode cX11_line 46 = .ok (.ifCond .ne 5, 3) := by decide +kernel
theorem dX11_line_49 : decode cX11_line 49 = .ok (.iconst 0, 1) := by decide +kernel
theorem dX11_line_50 : decode cX11_line 50 = .ok (.ireturn, 1) := by decide +kernel
theorem dX11_line_51 : decode cX11_line 51 = .ok (.aload_n 0, 1) := by decide +kernel
theorem dX11_line_52 : decode cX11_line 52 = .ok (.getfield 37, 3) := by decide +kernel
theorem dX11_line_55 : decode cX11_line 55 = .ok (.iconst 0, 1) := by decide +kernel
theorem dX11_line_56 : decode cX11_line 56 = .ok (.iload_n 1, 1) := by decide +kernel
theorem dX11_line_57 : decode cX11_line 57 = .ok (.iadd, 1) := by decide +kernel
theorem dX11_line_58 : decode cX11_line 58 = .ok (.aload_n 0, 1) := by decide +kernel
theorem dX11_line_59 : decode cX11_line 59 = .ok (.getfield 198, 3) := by decide +kernel
theorem dX11_line_62 : decode cX11_line 62 = .ok (.iastore, 1) := by decide +kernel
theorem dX11_line_63 : decode cX11_line 63 = .ok (.iinc 1 1, 3) := by decide +kernel
theorem dX11_line_66 : decode cX11_line 66 = .ok (.goto (-32), 3) := by decide +kernel
theorem dX11_line_69 : decode cX11_line 69 = .ok (.iconst 1, 1) := by decide +kernel
theorem dX11_line_70 : decode cX11_line 70 = .ok (.ireturn, 1) := by decide +kernel
theorem dX11_line_71 : decode cX11_line 71 = .ok (.aload_n 0, 1) := by decide +kernel
theorem dX11_line_72 : decode cX11_line 72 = .ok (.ldc2_w 114, 3) := by decide +kernel
theorem dX11_line_75 : decode cX11_line 75 = .ok (.invokevirtual 201, 3) := by decide +kernel
theorem dX11_line_78 : decode cX11_line 78 = .ok (.ifCond .eq 8, 3) := by decide +kernel
theorem dX11_line_81 : decode cX11_line 81 = .ok (.aload_n 0, 1) := by decide +kernel
theorem dX11_line_82 : decode cX11_line 82 = .ok (.invokevirtual 213, 3) := by decide +kernel
theorem dX11_line_85 : decode cX11_line 85 = .ok (.ireturn, 1) := by decide +kernel
theorem dX11_line_86 : decode cX11_line 86 = .ok (.aload_n 0, 1) := by decide +kernel
theorem dX11_line_87 : decode cX11_line 87 = .ok (.ldc2_w 116, 3) := by decide +kernel
theorem dX11_line_90 : decode cX11_line 90 = .ok (.invokevirtual 201, 3) := by decide +kernel
theorem dX11_line_93 : decode cX11_line 93 = .ok (.ifCond .eq 8, 3) := by decide +kernel
theorem dX11_line_96 : decode cX11_line 96 = .ok (.aload_n 0, 1) := by decide +kernel
theorem dX11_line_97 : decode cX11_line 97 = .ok (.invokevirtual 217, 3) := by decide +kernel
theorem dX11_line_100 : decode cX11_line 100 = .ok (.ireturn, 1) := by decide +kernel
theorem dX11_line_101 : decode cX11_line 101 = .ok (.aload_n 0, 1) := by decide +kernel
theorem dX11_line_102 : decode cX11_line 102 = .ok (.ldc2_w 118, 3) := by decide +kernel
theorem dX11_line_105 : decode cX11_line 105 = .ok (.invokevirtual 201, 3) := by decide +kernel
theorem dX11_line_108 : decode cX11_line 108 = .ok (.ifCond .eq 11, 3) := by decide +kernel
theorem dX11_line_111 : decode cX11_line 111 = .ok (.aload_n 0, 1) := by decide +kernel
theorem dX11_line_112 : decode cX11_line 112 = .ok (.bipush 127, 2) := by decide +kernel
theorem dX11_line_114 : decode cX11_line 114 = .ok (.iconst 4, 1) := by decide +kernel
theorem dX11_line_115 : decode cX11_line 115 = .ok (.invokevirtual 220, 3) := by decide +kernel
theorem dX11_line_118 : decode cX11_line 118 = .ok (.ireturn, 1) := by decide +kernel
theorem dX11_line_119 : decode cX11_line 119 = .ok (.aload_n 0, 1) := by decide +kernel
theorem dX11_line_120 : decode cX11_line 120 = .ok (.ldc2_w 120, 3) := by decide +kernel
theorem dX11_line_123 : decode cX11_line 123 = .ok (.invokevirtual 201, 3) := by decide +kernel
theorem dX11_line_126 : decode cX11_line 126 = .ok (.ifCond .eq 12, 3) := by decide +kernel
theorem dX11_line_129 : decode cX11_line 129 = .ok (.aload_n 0, 1) := by decide +kernel
theorem dX11_line_130 : decode cX11_line 130 = .ok (.sipush 227, 3) := by decide +kernel
theorem dX11_line_133 : decode cX11_line 133 = .ok (.iconst 5, 1) := by decide +kernel
theorem dX11_line_134 : decode cX11_line 134 = .ok (.invokevirtual 220, 3) := by decide +kernel
theorem dX11_line_137 : decode cX11_line 137 = .ok (.ireturn, 1) := by decide +kernel
theorem dX11_line_138 : decode cX11_line 138 = .ok (.aload_n 0, 1) := by decide +kernel
theorem dX11_line_139 : decode cX11_line 139 = .ok (.ldc2_w 122, 3) := by decide +kernel
theorem dX11_line_142 : decode cX11_line 142 = .ok (.invokevirtual 201, 3) := by decide +kernel
theorem dX11_line_145 : decode cX11_line 145 = .ok (.ifCond .eq 13, 3) := by decide +kernel
theorem dX11_line_148 : decode cX11_line 148 = .ok (.aload_n 0, 1) := by decide +kernel
theorem dX11_line_149 : decode cX11_line 149 = .ok (.sipush 327, 3) := by decide +kernel
theorem dX11_line_152 : decode cX11_line 152 = .ok (.bipush 6, 2) := by decide +kernel
theorem dX11_line_154 : decode cX11_line 154 = .ok (.invokevirtual 220, 3) := by decide +kernel
theorem dX11_line_157 : decode cX11_line 157 = .ok (.ireturn, 1) := by decide +kernel
theorem dX11_line_158 : decode cX11_line 158 = .ok (.aload_n 0, 1) := by decide +kernel
theorem dX11_line_159 : decode cX11_line 159 = .ok (.ldc2_w 124, 3) := by decide +kernel
theorem dX11_line_162 : decode cX11_line 162 = .ok (.invokevirtual 201, 3) := by decide +kernel
theorem dX11_line_165 : decode cX11_line 165 = .ok (.ifCond .eq 89, 3) := by decide +kernel
theorem dX11_line_168 : decode cX11_line 168 = .ok (.aload_n 0, 1) := by decide +kernel
theorem dX11_line_169 : decode cX11_line 169 = .ok (.invokevirtual 191, 3) := by decide +kernel
theorem dX11_line_172 : decode cX11_line 172 = .ok (.aload_n 0, 1) := by decide +kernel
theorem dX11_line_173 : decode cX11_line 173 = .ok (.invokevirtual 223, 3) := by decide +kernel
theorem dX11_line_176 : decode cX11_line 176 = .ok (.ifCond .ne 9, 3) := by decide +kernel
theorem dX11_line_179 : decode cX11_line 179 = .ok (.aload_n 0, 1) := by decide +kernel
theorem dX11_line_180 : decode cX11_line 180 = .ok (.iconst 1, 1) := by decide +kernel
theorem dX11_line_181 : decode cX11_line 181 = .ok (.invokevirtual 188, 3) := by decide +kernel
theorem dX11_line_184 : decode cX11_line 184 = .ok (.ireturn, 1) := by decide +kernel
theorem dX11_line_185 : decode cX11_line 185 = .ok (.aload_n 0, 1) := by decide +kernel
theorem dX11_line_186 : decode cX11_line 186 = .ok (.bipush 9, 2) := by decide +kernel
theorem dX11_line_188 : decode cX11_line 188 = .ok (.aload_n 0, 1) := by decide +kernel
theorem dX11_line_189 : decode cX11_line 189 = .ok (.getfield 37, 3) := by decide +kernel
theorem dX11_line_192 : decode cX11_line 192 = .ok (.iconst 2, 1) := by decide +kernel
theorem dX11_line_193 : decode cX11_line 193 = .ok (.iaload, 1) := by decide +kernel
theorem dX11_line_194 : decode cX11_line 194 = .ok (.invokevirtual 226, 3) := by decide +kernel
theorem dX11_line_197 : decode cX11_line 197 = .ok (.istore_n 1, 1) := by decide +kernel
theorem dX11_line_198 : decode cX11_line 198 = .ok (.iload_n 1, 1) := by decide +kernel
theorem dX11_line_199 : decode cX11_line 199 = .ok (.ifCond .lt 15, 3) := by decide +kernel
theorem dX11_line_202 : decode cX11_line 202 = .ok (.aload_n 0, 1) := by decide +kernel
theorem dX11_line_203 : decode cX11_line 203 = .ok (.getfield 37, 3) := by decide +kernel
theorem dX11_line_206 : decode cX11_line 206 = .ok (.bipush 38, 2) := by decide +kernel
theorem dX11_line_208 : decode cX11_line 208 = .ok (.iload_n 1, 1) := by decide +kernel
theorem dX11_line_209 : decode cX11_line 209 = .ok (.iadd, 1) := by decide +kernel
theorem dX11_line_210 : decode cX11_line 210 = .ok (.iaload, 1) := by decide +kernel
theorem dX11_line_211 : decode cX11_line 211 = .ok (.ifCond .le 9, 3) := by decide +kernel
theorem dX11_line_214 : decode cX11_line 214 = .ok (.aload_n 0, 1) := by decide +kernel
theorem dX11_line_215 : decode cX11_line 215 = .ok (.iconst 3, 1) := by decide +kernel
theorem dX11_line_216 : decode cX11_line 216 = .ok (.invokevirtual 188, 3) := by decide +kernel
theorem dX11_line_219 : decode cX11_line 219 = .ok (.ireturn, 1) := by decide +kernel
theorem dX11_line_220 : decode cX11_line 220 = .ok (.aload_n 0, 1) := by decide +kernel
theorem dX11_line_221 : decode cX11_line 221 = .ok (.invokevirtual 191, 3) := by decide +kernel
theorem dX11_line_224 : decode cX11_line 224 = .ok (.aload_n 0, 1) := by decide +kernel
theorem dX11_line_225 : decode cX11_line 225 = .ok (.invokevirtual 230, 3) := by decide +kernel
theorem dX11_line_228 : decode cX11_line 228 = .ok (.ifCond .ne 5, 3) := by decide +kernel
theorem dX11_line_231 : decode cX11_line 231 = .ok (.iconst 0, 1) := by decide +kernel
theorem dX11_line_232 : decode cX11_line 232 = .ok (.ireturn, 1) := by decide +kernel
theorem dX11_line_233 : decode cX11_line 233 = .ok (.aload_n 0, 1) := by decide +kernel
theorem dX11_line_234 : decode cX11_line 234 = .ok (.getfield 37, 3) := by decide +kernel
theorem dX11_line_237 : decode cX11_line 237 = .ok (.bipush 38, 2) := by decide +kernel
theorem dX11_line_239 : decode cX11_line 239 = .ok (.iload_n 1, 1) := by decide +kernel
theorem dX11_line_240 : decode cX11_line 240 = .ok (.iadd, 1) := by decide +kernel
theorem dX11_line_241 : decode cX11_line 241 = .ok (.aload_n 0, 1) := by decide +kernel
theorem dX11_line_242 : decode cX11_line 242 = .ok (.getfield 198, 3) := by decide +kernel
theorem dX11_line_245 : decode cX11_line 245 = .ok (.iconst 1, 1) := by decide +kernel
theorem dX11_line_246 : decode cX11_line 246 = .ok (.iadd, 1) := by decide +kernel
theorem dX11_line_247 : decode cX11_line 247 = .ok (.iastore, 1) := by decide +kernel
theorem dX11_line_248 : decode cX11_line 248 = .ok (.aload_n 0, 1) := by decide +kernel
theorem dX11_line_249 : decode cX11_line 249 = .ok (.invokevirtual 191, 3) := by decide +kernel
theorem dX11_line_252 : decode cX11_line 252 = .ok (.iconst 1, 1) := by decide +kernel
theorem dX11_line_253 : decode cX11_line 253 = .ok (.ireturn, 1) := by decide +kernel
theorem dX11_line_254 : decode cX11_line 254 = .ok (.aload_n 0, 1) := by decide +kernel
theorem dX11_line_255 : decode cX11_line 255 = .ok (.ldc2_w 126, 3) := by decide +kernel
theorem dX11_line_258 : decode cX11_line 258 = .ok (.invokevirtual 201, 3) := by decide +kernel
theorem dX11_line_261 : decode cX11_line 261 = .ok (.ifCond .ne 9, 3) := by decide +kernel
theorem dX11_line_264 : decode cX11_line 264 = .ok (.aload_n 0, 1) := by decide +kernel
theorem dX11_line_265 : decode cX11_line 265 = .ok (.iconst 1, 1) := by decide +kernel
theorem dX11_line_266 : decode cX11_line 266 = .ok (.invokevirtual 188, 3) := by decide +kernel
theorem dX11_line_269 : decode cX11_line 269 = .ok (.ireturn, 1) := by decide +kernel
theorem dX11_line_270 : decode cX11_line 270 = .ok (.aload_n 0, 1) := by decide +kernel
theorem dX11_line_271 : decode cX11_line 271 = .ok (.getfield 233, 3) := by decide +kernel
theorem dX11_line_274 : decode cX11_line 274 = .ok (.ifCond .eq 9, 3) := by decide +kernel
theorem dX11_line_277 : decode cX11_line 277 = .ok (.aload_n 0, 1) := by decide +kernel
theorem dX11_line_278 : decode cX11_line 278 = .ok (.iconst 3, 1) := by decide +kernel
theorem dX11_line_279 : decode cX11_line 279 = .ok (.invokevirtual 188, 3) := by decide +kernel
theorem dX11_line_282 : decode cX11_line 282 = .ok (.ireturn, 1) := by decide +kernel
theorem dX11_line_283 : decode cX11_line 283 = .ok (.aload_n 0, 1) := by decide +kernel
theorem dX11_line_284 : decode cX11_line 284 = .ok (.iconst 1, 1) := by decide +kernel
theorem dX11_line_285 : decode cX11_line 285 = .ok (.putfield 233, 3) := by decide +kernel
theorem dX11_line_288 : decode cX11_line 288 = .ok (.aload_n 0, 1) := by decide +kernel
theorem dX11_line_289 : decode cX11_line 289 = .ok (.invokevirtual 191, 3) := by decide +kernel
theorem dX11_line_292 : decode cX11_line 292 = .ok (.iconst 0, 1) := by decide +kernel
theorem dX11_line_293 : decode cX11_line 293 = .ok (.istore_n 1, 1) := by decide +kernel
theorem dX11_line_294 : decode cX11_line 294 = .ok (.iload_n 1, 1) := by decide +kernel
theorem dX11_line_295 : decode cX11_line 295 = .ok (.iconst 4, 1) := by decide +kernel
theorem dX11_line_296 : decode cX11_line 296 = .ok (.if_icmp .ge 34, 3) := by decide +kernel
theorem dX11_line_299 : decode cX11_line 299 = .ok (.aload_n 0, 1) := by decide +kernel
theorem dX11_line_300 : decode cX11_line 300 = .ok (.iconst 0, 1) := by decide +kernel
theorem dX11_line_301 : decode cX11_line 301 = .ok (.bipush 9, 2) := by decide +kernel
theorem dX11_line_303 : decode cX11_line 303 = .ok (.invokevirtual 209, 3) := by decide +kernel
theorem dX11_line_306 : decode cX11_line 306 = .ok (.ifCond .ne 5, 3) := by decide +kernel
theorem dX11_line_309 : decode cX11_line 309 = .ok (.iconst 0, 1) := by decide +kernel
theorem dX11_line_310 : decode cX11_line 310 = .ok (.ireturn, 1) := by decide +kernel
theorem dX11_line_311 : decode cX11_line 311 = .ok (.aload_n 0, 1) := by decide +kernel
theorem dX11_line_312 : decode cX11_line 312 = .ok (.getfield 37, 3) := by decide +kernel
theorem dX11_line_315 : decode cX11_line 315 = .ok (.bipush 7, 2) := by decide +kernel
theorem dX11_line_317 : decode cX11_line 317 = .ok (.iload_n 1, 1) := by decide +kernel
theorem dX11_line_318 : decode cX11_line 318 = .ok (.iadd, 1) := by decide +kernel
theorem dX11_line_319 : decode cX11_line 319 = .ok (.aload_n 0, 1) := by decide +kernel
theorem dX11_line_320 : decode cX11_line 320 = .ok (.getfield 198, 3) := by decide +kernel
theorem dX11_line_323 : decode cX11_line 323 = .ok (.iastore, 1) := by decide +kernel
theorem dX11_line_324 : decode cX11_line 324 = .ok (.iinc 1 1, 3) := by decide +kernel
theorem dX11_line_327 : decode cX11_line 327 = .ok (.goto (-33), 3) := by decide +kernel
theorem dX11_line_330 : decode cX11_line 330 = .ok (.iconst 1, 1) := by decide +kernel
theorem dX11_line_331 : decode cX11_line 331 = .ok (.ireturn, 1) := by decide +kernel
theorem dX11_newDay_0 : decode cX11_newDay 0 = .ok (.iconst 0, 1) := by decide +kernel
theorem dX11_newDay_1 : decode cX11_newDay 1 = .ok (.istore_n 1, 1) := by decide +kernel
theorem dX11_newDay_2 : decode cX11_newDay 2 = .ok (.iload_n 1, 1) := by decide +kernel
theorem dX11_newDay_3 : decode cX11_newDay 3 = .ok (.bipush 20, 2) := by decide +kernel
theorem dX11_newDay_5 : decode cX11_newDay 5 = .ok (.if_icmp .ge 28, 3) := by decide +kernel
theorem dX11_newDay_8 : decode cX11_newDay 8 = .ok (.aload_n 0, 1) := by decide +kernel
theorem dX11_newDay_9 : decode cX11_newDay 9 = .ok (.getfield 33, 3) := by decide +kernel
theorem dX11_newDay_12 : decode cX11_newDay 12 = .ok (.sipush 674, 3) := by decide +kernel
theorem dX11_newDay_15 : decode cX11_newDay 15 = .ok (.iload_n 1, 1) := by decide +kernel
theorem dX11_newDay_16 : decode cX11_newDay 16 = .ok (.iadd, 1) := by decide +kernel
theorem dX11_newDay_17 : decode cX11_newDay 17 = .ok (.aload_n 0, 1) := by decide +kernel
theorem dX11_newDay_18 : decode cX11_newDay 18 = .ok (.getfield 33, 3) := by decide +kernel
theorem dX11_newDay_21 : decode cX11_newDay 21 = .ok (.bipush 87, 2) := by decide +kernel
theorem dX11_newDay_23 : decode cX11_newDay 23 = .ok (.iload_n 1, 1) := by decide +kernel
theorem dX11_newDay_24 : decode cX11_newDay 24 = .ok (.iadd, 1) := by decide +kernel
theorem dX11_newDay_25 : decode cX11_newDay 25 = .ok (.iaload, 1) := by decide +kernel
theorem dX11_newDay_26 : decode cX11_newDay 26 = .ok (.iastore, 1) := by decide +kernel
theorem dX11_newDay_27 : decode cX11_newDay 27 = .ok (.iinc 1 1, 3) := by decide +kernel
theorem dX11_newDay_30 : decode cX11_newDay 30 = .ok (.goto (-28), 3) := by decide +kernel
theorem dX11_newDay_33 : decode cX11_newDay 33 = .ok (.iconst 0, 1) := by decide +kernel
theorem dX11_newDay_34 : decode cX11_newDay 34 = .ok (.istore_n 1, 1) := by decide +kernel
theorem dX11_newDay_35 : decode cX11_newDay 35 = .ok (.iload_n 1, 1) := by decide +kernel
theorem dX11_newDay_36 : decode cX11_newDay 36 = .ok (.sipush 180, 3) := by decide +kernel
theorem dX11_newDay_39 : decode cX11_newDay 39 = .ok (.if_icmp .ge 20, 3) := by decide +kernel
theorem dX11_newDay_42 : decode cX11_newDay 42 = .ok (.aload_n 0, 1) := by decide +kernel
theorem dX11_newDay_43 : decode cX11_newDay 43 = .ok (.getfield 33, 3) := by decide +kernel
theorem dX11_newDay_46 : decode cX11_newDay 46 = .ok (.sipush 494, 3) := by decide +kernel
theorem dX11_newDay_49 : decode cX11_newDay 49 = .ok (.iload_n 1, 1) := by decide +kernel
theorem dX11_newDay_50 : decode cX11_newDay 50 = .ok (.iadd, 1) := by decide +kernel
theorem dX11_newDay_51 : decode cX11_newDay 51 = .ok (.iconst 0, 1) := by decide +kernel
theorem dX11_newDay_52 : decode cX11_newDay 52 = .ok (.iastore, 1) := by decide +kernel
theorem dX11_newDay_53 : decode cX11_newDay 53 = .ok (.iinc 1 1, 3) := by decide +kernel
theorem dX11_newDay_56 : decode cX11_newDay 56 = .ok (.goto (-21), 3) := by decide +kernel
theorem dX11_newDay_59 : decode cX11_newDay 59 = .ok (.return_, 1) := by decide +kernel
theorem dX11_begins_0 : decode cX11_begins 0 = .ok (.sipush 455, 3) := by decide +kernel
theorem dX11_begins_3 : decode cX11_begins 3 = .ok (.istore_n 2, 1) := by decide +kernel
theorem dX11_begins_4 : decode cX11_begins 4 = .ok (.iload_n 2, 1) := by decide +kernel
theorem dX11_begins_5 : decode cX11_begins 5 = .ok (.sipush 974, 3) := by decide +kernel
theorem dX11_begins_8 : decode cX11_begins 8 = .ok (.if_icmp .ge 29, 3) := by decide +kernel
theorem dX11_begins_11 : decode cX11_begins 11 = .ok (.iload_n 2, 1) := by decide +kernel
theorem dX11_begins_12 : decode cX11_begins 12 = .ok (.sipush 814, 3) := by decide +kernel
theorem dX11_begins_15 : decode cX11_begins 15 = .ok (.sipush 913, 3) := by decide +kernel
theorem dX11_begins_18 : decode cX11_begins 18 = .ok (.invokestatic 194, 3) := by decide +kernel
theorem dX11_begins_21 : decode cX11_begins 21 = .ok (.ifCond .ne 10, 3) := by decide +kernel
theorem dX11_begins_24 : decode cX11_begins 24 = .ok (.aload_n 0, 1) := by decide +kernel
theorem dX11_begins_25 : decode cX11_begins 25 = .ok (.getfield 33, 3) := by decide +kernel
theorem dX11_begins_28 : decode cX11_begins 28 = .ok (.iload_n 2, 1) := by decide +kernel
theorem dX11_begins_29 : decode cX11_begins 29 = .ok (.iconst 0, 1) := by decide +kernel
theorem dX11_begins_30 : decode cX11_begins 30 = .ok (.iastore, 1) := by decide +kernel
theorem dX11_begins_31 : decode cX11_begins 31 = .ok (.iinc 2 1, 3) := by decide +kernel
theorem dX11_begins_34 : decode cX11_begins 34 = .ok (.goto (-30), 3) := by decide +kernel
theorem dX11_begins_37 : decode cX11_begins 37 = .ok (.aload_n 0, 1) := by decide +kernel
theorem dX11_begins_38 : decode cX11_begins 38 = .ok (.getfield 33, 3) := by decide +kernel
theorem dX11_begins_41 : decode cX11_begins 41 = .ok (.sipush 457, 3) := by decide +kernel
theorem dX11_begins_44 : decode cX11_begins 44 = .ok (.iload_n 1, 1) := by decide +kernel
theorem dX11_begins_45 : decode cX11_begins 45 = .ok (.iastore, 1) := by decide +kernel
theorem dX11_begins_46 : decode cX11_begins 46 = .ok (.iconst 0, 1) := by decide +kernel
theorem dX11_begins_47 : decode cX11_begins 47 = .ok (.istore_n 2, 1) := by decide +kernel
theorem dX11_begins_48 : decode cX11_begins 48 = .ok (.iload_n 2, 1) := by decide +kernel
theorem dX11_begins_49 : decode cX11_begins 49 = .ok (.aload_n 0, 1) := by decide +kernel
theorem dX11_begins_50 : decode cX11_begins 50 = .ok (.getfield 33, 3) := by decide +kernel
theorem dX11_begins_53 : decode cX11_begins 53 = .ok (.iconst 2, 1) := by decide +kernel
theorem dX11_begins_54 : decode cX11_begins 54 = .ok (.iaload, 1) := by decide +kernel
theorem dX11_begins_55 : decode cX11_begins 55 = .ok (.if_icmp .ge 28, 3) := by decide +kernel
theorem dX11_begins_58 : decode cX11_begins 58 = .ok (.aload_n 0, 1) := by decide +kernel
theorem dX11_begins_59 : decode cX11_begins 59 = .ok (.getfield 33, 3) := by decide +kernel
theorem dX11_begins_62 : decode cX11_begins 62 = .ok (.sipush 458, 3) := by decide +kernel
theorem dX11_begins_65 : decode cX11_begins 65 = .ok (.iload_n 2, 1) := by decide +kernel
theorem dX11_begins_66 : decode cX11_begins 66 = .ok (.iadd, 1) := by decide +kernel
theorem dX11_begins_67 : decode cX11_begins 67 = .ok (.aload_n 0, 1) := by decide +kernel
theorem dX11_begins_68 : decode cX11_begins 68 = .ok (.getfield 33, 3) := by decide +kernel
theorem dX11_begins_71 : decode cX11_begins 71 = .ok (.bipush 20, 2) := by decide +kernel
theorem dX11_begins_73 : decode cX11_begins 73 = .ok (.iload_n 2, 1) := by decide +kernel
theorem dX11_begins_74 : decode cX11_begins 74 = .ok (.iadd, 1) := by decide +kernel
theorem dX11_begins_75 : decode cX11_begins 75 = .ok (.iaload, 1) := by decide +kernel
theorem dX11_begins_76 : decode cX11_begins 76 = .ok (.iastore, 1) := by decide +kernel
theorem dX11_begins_77 : decode cX11_begins 77 = .ok (.iinc 2 1, 3) := by decide +kernel
theorem dX11_begins_80 : decode cX11_begins 80 = .ok (.goto (-32), 3) := by decide +kernel
theorem dX11_begins_83 : decode cX11_begins 83 = .ok (.aload_n 0, 1) := by decide +kernel
theorem dX11_begins_84 : decode cX11_begins 84 = .ok (.invokevirtual 275, 3) := by decide +kernel
theorem dX11_begins_87 : decode cX11_begins 87 = .ok (.return_, 1) := by decide +kernel
theorem dX11_town_0 : decode cX11_town 0 = .ok (.aload_n 0, 1) := by decide +kernel
theorem dX11_town_1 : decode cX11_town 1 = .ok (.iconst 0, 1) := by decide +kernel
theorem dX11_town_2 : decode cX11_town 2 = .ok (.putfield 1, 3) := by decide +kernel
theorem dX11_town_5 : decode cX11_town 5 = .ok (.aload_n 0, 1) := by decide +kernel
theorem dX11_town_6 : decode cX11_town 6 = .ok (.sipush 900, 3) := by decide +kernel
theorem dX11_town_9 : decode cX11_town 9 = .ok (.invokevirtual 236, 3) := by decide +kernel
theorem dX11_town_12 : decode cX11_town 12 = .ok (.aload_n 0, 1) := by decide +kernel
theorem dX11_town_13 : decode cX11_town 13 = .ok (.iconst 0, 1) := by decide +kernel
theorem dX11_town_14 : decode cX11_town 14 = .ok (.putfield 179, 3) := by decide +kernel
theorem dX11_town_17 : decode cX11_town 17 = .ok (.aload_n 0, 1) := by decide +kernel
theorem dX11_town_18 : decode cX11_town 18 = .ok (.iconst 0, 1) := by decide +kernel
theorem dX11_town_19 : decode cX11_town 19 = .ok (.putfield 239, 3) := by decide +kernel
theorem dX11_town_22 : decode cX11_town 22 = .ok (.aload_n 0, 1) := by decide +kernel
theorem dX11_town_23 : decode cX11_town 23 = .ok (.iconst 0, 1) := by decide +kernel
theorem dX11_town_24 : decode cX11_town 24 = .ok (.putfield 205, 3) := by decide +kernel
theorem dX11_town_27 : decode cX11_town 27 = .ok (.aload_n 0, 1) := by decide +kernel
theorem dX11_town_28 : decode cX11_town 28 = .ok (.iconst 0, 1) := by decide +kernel
theorem dX11_town_29 : decode cX11_town 29 = .ok (.putfield 233, 3) := by decide +kernel
theorem dX11_town_32 : decode cX11_town 32 = .ok (.iconst 0, 1) := by decide +kernel
theorem dX11_town_33 : decode cX11_town 33 = .ok (.istore_n 1, 1) := by decide +kernel
theorem dX11_town_34 : decode cX11_town 34 = .ok (.iload_n 1, 1) := by decide +kernel
theorem dX11_town_35 : decode cX11_town 35 = .ok (.sipush 427, 3) := by decide +kernel
theorem dX11_town_38 : decode cX11_town 38 = .ok (.if_icmp .ge 16, 3) := by decide +kernel
theorem dX11_town_41 : decode cX11_town 41 = .ok (.aload_n 0, 1) := by decide +kernel
theorem dX11_town_42 : decode cX11_town 42 = .ok (.getfield 37, 3) := by decide +kernel
theorem dX11_town_45 : decode cX11_town 45 = .ok (.iload_n 1, 1) := by decide +kernel
theorem dX11_town_46 : decode cX11_town 46 = .ok (.iconst 0, 1) := by decide +kernel
theorem dX11_town_47 : decode cX11_town 47 = .ok (.iastore, 1) := by decide +kernel
theorem dX11_town_48 : decode cX11_town 48 = .ok (.iinc 1 1, 3) := by decide +kernel
theorem dX11_town_51 : decode cX11_town 51 = .ok (.goto (-17), 3) := by decide +kernel
theorem dX11_town_54 : decode cX11_town 54 = .ok (.iconst 0, 1) := by decide +kernel
theorem dX11_town_55 : decode cX11_town 55 = .ok (.istore_n 1, 1) := by decide +kernel
theorem dX11_town_56 : decode cX11_town 56 = .ok (.iload_n 1, 1) := by decide +kernel
theorem dX11_town_57 : decode cX11_town 57 = .ok (.iconst 3, 1) := by decide +kernel
theorem dX11_town_58 : decode cX11_town 58 = .ok (.if_icmp .ge 19, 3) := by decide +kernel
theorem dX11_town_61 : decode cX11_town 61 = .ok (.aload_n 0, 1) := by decide +kernel
theorem dX11_town_62 : decode cX11_town 62 = .ok (.getfield 37, 3) := by decide +kernel
theorem dX11_town_65 : decode cX11_town 65 = .ok (.bipush 7, 2) := by decide +kernel
theorem dX11_town_67 : decode cX11_town 67 = .ok (.iload_n 1, 1) := by decide +kernel
theorem dX11_town_68 : decode cX11_town 68 = .ok (.iadd, 1) := by decide +kernel
theorem dX11_town_69 : decode cX11_town 69 = .ok (.iconst 1, 1) := by decide +kernel
theorem dX11_town_70 : decode cX11_town 70 = .ok (.iastore, 1) := by decide +kernel
theorem dX11_town_71 : decode cX11_town 71 = .ok (.iinc 1 1, 3) := by decide +kernel
theorem dX11_town_74 : decode cX11_town 74 = .ok (.goto (-18), 3) := by decide +kernel
theorem dX11_town_77 : decode cX11_town 77 = .ok (.aload_n 0, 1) := by decide +kernel
theorem dX11_town_78 : decode cX11_town 78 = .ok (.invokevirtual 191, 3) := by decide +kernel
theorem dX11_town_81 : decode cX11_town 81 = .ok (.aload_n 0, 1) := by decide +kernel
theorem dX11_town_82 : decode cX11_town 82 = .ok (.getfield 162, 3) := by decide +kernel
theorem dX11_town_85 : decode cX11_town 85 = .ok (.ifCond .eq 39, 3) := by decide +kernel
theorem dX11_town_88 : decode cX11_town 88 = .ok (.aload_n 0, 1) := by decide +kernel
theorem dX11_town_89 : decode cX11_town 89 = .ok (.invokevirtual 242, 3) := by decide +kernel
theorem dX11_town_92 : decode cX11_town 92 = .ok (.ifCond .eq 12, 3) := by decide +kernel
theorem dX11_town_95 : decode cX11_town 95 = .ok (.aload_n 0, 1) := by decide +kernel
theorem dX11_town_96 : decode cX11_town 96 = .ok (.bipush 59, 2) := by decide +kernel
theorem dX11_town_98 : decode cX11_town 98 = .ok (.invokevirtual 245, 3) := by decide +kernel
theorem dX11_town_101 : decode cX11_town 101 = .ok (.ifCond .ne 10, 3) := by decide +kernel
theorem dX11_town_104 : decode cX11_town 104 = .ok (.iconst (-1), 1) := by decide +kernel
theorem dX11_town_105 : decode cX11_town 105 = .ok (.aload_n 0, 1) := by decide +kernel
theorem dX11_town_106 : decode cX11_town 106 = .ok (.getfield 182, 3) := by decide +kernel
theorem dX11_town_109 : decode cX11_town 109 = .ok (.isub, 1) := by decide +kernel
theorem dX11_town_110 : decode cX11_town 110 = .ok (.ireturn, 1) := by decide +kernel
theorem dX11_town_111 : decode cX11_town 111 = .ok (.aload_n 0, 1) := by decide +kernel
theorem dX11_town_112 : decode cX11_town 112 = .ok (.dup, 1) := by decide +kernel
theorem dX11_town_113 : decode cX11_town 113 = .ok (.getfield 239, 3) := by decide +kernel
theorem dX11_town_116 : decode cX11_town 116 = .ok (.iconst 1, 1) := by decide +kernel
theorem dX11_town_117 : decode cX11_town 117 = .ok (.iadd, 1) := by decide +kernel
theorem dX11_town_118 : decode cX11_town 118 = .ok (.putfield 239, 3) := by decide +kernel
theorem dX11_town_121 : decode cX11_town 121 = .ok (.goto (-40), 3) := by decide +kernel
theorem dX11_town_124 : decode cX11_town 124 = .ok (.iconst 0, 1) := by decide +kernel
theorem dX11_town_125 : decode cX11_town 125 = .ok (.istore_n 1, 1) := by decide +kernel
theorem dX11_town_126 : decode cX11_town 126 = .ok (.iload_n 1, 1) := by decide +kernel
theorem dX11_town_127 : decode cX11_town 127 = .ok (.sipush 1155, 3) := by decide +kernel
theorem dX11_town_130 : decode cX11_town 130 = .ok (.if_icmp .ge 32, 3) := by decide +kernel
theorem dX11_town_133 : decode cX11_town 133 = .ok (.aload_n 0, 1) := by decide +kernel
theorem dX11_town_134 : decode cX11_town 134 = .ok (.getfield 33, 3) := by decide +kernel
theorem dX11_town_137 : decode cX11_town 137 = .ok (.iload_n 1, 1) := by decide +kernel
theorem dX11_town_138 : decode cX11_town 138 = .ok (.iload_n 1, 1) := by decide +kernel
theorem dX11_town_139 : decode cX11_town 139 = .ok (.sipush 427, 3) := by decide +kernel
theorem dX11_town_142 : decode cX11_town 142 = .ok (.if_icmp .ge 12, 3) := by decide +kernel
theorem dX11_town_145 : decode cX11_town 145 = .ok (.aload_n 0, 1) := by decide +kernel
theorem dX11_town_146 : decode cX11_town 146 = .ok (.getfield 37, 3) := by decide +kernel
theorem dX11_town_149 : decode cX11_town 149 = .ok (.iload_n 1, 1) := by decide +kernel
theorem dX11_town_150 : decode cX11_town 150 = .ok (.iaload, 1) := by decide +kernel
theorem dX11_town_151 : decode cX11_town 151 = .ok (.goto 4, 3) := by decide +kernel
theorem dX11_town_154 : decode cX11_town 154 = .ok (.iconst 0, 1) := by decide +kernel
theorem dX11_town_155 : decode cX11_town 155 = .ok (.iastore, 1) := by decide +kernel
theorem dX11_town_156 : decode cX11_town 156 = .ok (.iinc 1 1, 3) := by decide +kernel
theorem dX11_town_159 : decode cX11_town 159 = .ok (.goto (-33), 3) := by decide +kernel
theorem dX11_town_162 : decode cX11_town 162 = .ok (.iconst 0, 1) := by decide +kernel
theorem dX11_town_163 : decode cX11_town 163 = .ok (.istore_n 1, 1) := by decide +kernel
theorem dX11_town_164 : decode cX11_town 164 = .ok (.iload_n 1, 1) := by decide +kernel
theorem dX11_town_165 : decode cX11_town 165 = .ok (.bipush 9, 2) := by decide +kernel
theorem dX11_town_167 : decode cX11_town 167 = .ok (.if_icmp .ge 24, 3) := by decide +kernel
theorem dX11_town_170 : decode cX11_town 170 = .ok (.aload_n 0, 1) := by decide +kernel
theorem dX11_town_171 : decode cX11_town 171 = .ok (.getfield 43, 3) := by decide +kernel
theorem dX11_town_174 : decode cX11_town 174 = .ok (.iload_n 1, 1) := by decide +kernel
theorem dX11_town_175 : decode cX11_town 175 = .ok (.aload_n 0, 1) := by decide +kernel
theorem dX11_town_176 : decode cX11_town 176 = .ok (.getfield 43, 3) := by decide +kernel
theorem dX11_town_179 : decode cX11_town 179 = .ok (.bipush 9, 2) := by decide +kernel
theorem dX11_town_181 : decode cX11_town 181 = .ok (.iload_n 1, 1) := by decide +kernel
theorem dX11_town_182 : decode cX11_town 182 = .ok (.iadd, 1) := by decide +kernel
theorem dX11_town_183 : decode cX11_town 183 = .ok (.laload, 1) := by decide +kernel
theorem dX11_town_184 : decode cX11_town 184 = .ok (.lastore, 1) := by decide +kernel
theorem dX11_town_185 : decode cX11_town 185 = .ok (.iinc 1 1, 3) := by decide +kernel
theorem dX11_town_188 : decode cX11_town 188 = .ok (.goto (-24), 3) := by decide +kernel
theorem dX11_town_191 : decode cX11_town 191 = .ok (.aload_n 0, 1) := by decide +kernel
theorem dX11_town_192 : decode cX11_town 192 = .ok (.iconst 0, 1) := by decide +kernel
theorem dX11_town_193 : decode cX11_town 193 = .ok (.invokevirtual 248, 3) := by decide +kernel
theorem dX11_town_196 : decode cX11_town 196 = .ok (.aload_n 0, 1) := by decide +kernel
theorem dX11_town_197 : decode cX11_town 197 = .ok (.getfield 239, 3) := by decide +kernel
theorem dX11_town_200 : decode cX11_town 200 = .ok (.ireturn, 1) := by decide +kernel
theorem dX11_fault_0 : decode cX11_fault 0 = .ok (.aload_n 0, 1) := by decide +kernel
theorem dX11_fault_1 : decode cX11_fault 1 = .ok (.iconst 0, 1) := by decide +kernel
theorem dX11_fault_2 : decode cX11_fault 2 = .ok (.putfield 1, 3) := by decide +kernel
theorem dX11_fault_5 : decode cX11_fault 5 = .ok (.aload_n 0, 1) := by decide +kernel
theorem dX11_fault_6 : decode cX11_fault 6 = .ok (.getfield 179, 3) := by decide +kernel
theorem dX11_fault_9 : decode cX11_fault 9 = .ok (.ireturn, 1) := by decide +kernel
theorem dX11_planRow_0 : decode cX11_planRow 0 = .ok (.aload_n 0, 1) := by decide +kernel
theorem dX11_planRow_1 : decode cX11_planRow 1 = .ok (.invokevirtual 223, 3) := by decide +kernel
theorem dX11_planRow_4 : decode cX11_planRow 4 = .ok (.ifCond .ne 9, 3) := by decide +kernel
theorem dX11_planRow_7 : decode cX11_planRow 7 = .ok (.aload_n 0, 1) := by decide +kernel
theorem dX11_planRow_8 : decode cX11_planRow 8 = .ok (.iconst 1, 1) := by decide +kernel
theorem dX11_planRow_9 : decode cX11_planRow 9 = .ok (.invokevirtual 188, 3) := by decide +kernel
theorem dX11_planRow_12 : decode cX11_planRow 12 = .ok (.ireturn, 1) := by decide +kernel
theorem dX11_planRow_13 : decode cX11_planRow 13 = .ok (.aload_n 0, 1) := by decide +kernel
theorem dX11_planRow_14 : decode cX11_planRow 14 = .ok (.iconst 0, 1) := by decide +kernel
theorem dX11_planRow_15 : decode cX11_planRow 15 = .ok (.aload_n 0, 1) := by decide +kernel
theorem dX11_planRow_16 : decode cX11_planRow 16 = .ok (.getfield 33, 3) := by decide +kernel
theorem dX11_planRow_19 : decode cX11_planRow 19 = .ok (.iconst 2, 1) := by decide +kernel
theorem dX11_planRow_20 : decode cX11_planRow 20 = .ok (.iaload, 1) := by decide +kernel
theorem dX11_planRow_21 : decode cX11_planRow 21 = .ok (.invokevirtual 226, 3) := by decide +kernel
theorem dX11_planRow_24 : decode cX11_planRow 24 = .ok (.istore_n 1, 1) := by decide +kernel
theorem dX11_planRow_25 : decode cX11_planRow 25 = .ok (.iload_n 1, 1) := by decide +kernel
theorem dX11_planRow_26 : decode cX11_planRow 26 = .ok (.ifCond .lt 12, 3) := by decide +kernel
theorem dX11_planRow_29 : decode cX11_planRow 29 = .ok (.aload_n 0, 1) := by decide +kernel
theorem dX11_planRow_30 : decode cX11_planRow 30 = .ok (.getfield 40, 3) := by decide +kernel
theorem dX11_planRow_33 : decode cX11_planRow 33 = .ok (.iload_n 1, 1) := by decide +kernel
theorem dX11_planRow_34 : decode cX11_planRow 34 = .ok (.iaload, 1) := by decide +kernel
theorem dX11_planRow_35 : decode cX11_planRow 35 = .ok (.ifCond .le 9, 3) := by decide +kernel
theorem dX11_planRow_38 : decode cX11_planRow 38 = .ok (.aload_n 0, 1) := by decide +kernel
theorem dX11_planRow_39 : decode cX11_planRow 39 = .ok (.iconst 3, 1) := by decide +kernel
theorem dX11_planRow_40 : decode cX11_planRow 40 = .ok (.invokevirtual 188, 3) := by decide +kernel
theorem dX11_planRow_43 : decode cX11_planRow 43 = .ok (.ireturn, 1) := by decide +kernel
theorem dX11_planRow_44 : decode cX11_planRow 44 = .ok (.aload_n 0, 1) := by decide +kernel
theorem dX11_planRow_45 : decode cX11_planRow 45 = .ok (.invokevirtual 191, 3) := by decide +kernel
theorem dX11_planRow_48 : decode cX11_planRow 48 = .ok (.aload_n 0, 1) := by decide +kernel
theorem dX11_planRow_49 : decode cX11_planRow 49 = .ok (.iconst 0, 1) := by decide +kernel
theorem dX11_planRow_50 : decode cX11_planRow 50 = .ok (.bipush 18, 2) := by decide +kernel
theorem dX11_planRow_52 : decode cX11_planRow 52 = .ok (.invokevirtual 209, 3) := by decide +kernel
theorem dX11_planRow_55 : decode cX11_planRow 55 = .ok (.ifCond .ne 5, 3) := by decide +kernel
theorem dX11_planRow_58 : decode cX11_planRow 58 = .ok (.iconst 0, 1) := by decide +kernel
theorem dX11_planRow_59 : decode cX11_planRow 59 = .ok (.ireturn, 1) := by decide +kernel
theorem dX11_planRow_60 : decode cX11_planRow 60 = .ok (.aload_n 0, 1) := by decide +kernel
theorem dX11_planRow_61 : decode cX11_planRow 61 = .ok (.getfield 40, 3) := by decide +kernel
theorem dX11_planRow_64 : decode cX11_planRow 64 = .ok (.iload_n 1, 1) := by decide +kernel
theorem dX11_planRow_65 : decode cX11_planRow 65 = .ok (.aload_n 0, 1) := by decide +kernel
theorem dX11_planRow_66 : decode cX11_planRow 66 = .ok (.getfield 198, 3) := by decide +kernel
theorem dX11_planRow_69 : decode cX11_planRow 69 = .ok (.iconst 1, 1) := by decide +kernel
theorem dX11_planRow_70 : decode cX11_planRow 70 = .ok (.iadd, 1) := by decide +kernel
theorem dX11_planRow_71 : decode cX11_planRow 71 = .ok (.iastore, 1) := by decide +kernel
theorem dX11_planRow_72 : decode cX11_planRow 72 = .ok (.aload_n 0, 1) := by decide +kernel
theorem dX11_planRow_73 : decode cX11_planRow 73 = .ok (.iconst 0, 1) := by decide +kernel
theorem dX11_planRow_74 : decode cX11_planRow 74 = .ok (.bipush 99, 2) := by decide +kernel
theorem dX11_planRow_76 : decode cX11_planRow 76 = .ok (.invokevirtual 209, 3) := by decide +kernel
theorem dX11_planRow_79 : decode cX11_planRow 79 = .ok (.ifCond .ne 5, 3) := by decide +kernel
theorem dX11_planRow_82 : decode cX11_planRow 82 = .ok (.iconst 0, 1) := by decide +kernel
theorem dX11_planRow_83 : decode cX11_planRow 83 = .ok (.ireturn, 1) := by decide +kernel
theorem dX11_planRow_84 : decode cX11_planRow 84 = .ok (.aload_n 0, 1) := by decide +kernel
theorem dX11_planRow_85 : decode cX11_planRow 85 = .ok (.getfield 40, 3) := by decide +kernel
theorem dX11_planRow_88 : decode cX11_planRow 88 = .ok (.bipush 9, 2) := by decide +kernel
theorem dX11_planRow_90 : decode cX11_planRow 90 = .ok (.iload_n 1, 1) := by decide +kernel
theorem dX11_planRow_91 : decode cX11_planRow 91 = .ok (.iadd, 1) := by decide +kernel
theorem dX11_planRow_92 : decode cX11_planRow 92 = .ok (.aload_n 0, 1) := by decide +kernel
theorem dX11_planRow_93 : decode cX11_planRow 93 = .ok (.getfield 198, 3) := by decide +kernel
theorem dX11_planRow_96 : decode cX11_planRow 96 = .ok (.iastore, 1) := by decide +kernel
theorem dX11_planRow_97 : decode cX11_planRow 97 = .ok (.aload_n 0, 1) := by decide +kernel
theorem dX11_planRow_98 : decode cX11_planRow 98 = .ok (.ldc2_w 128, 3) := by decide +kernel
theorem dX11_planRow_101 : decode cX11_planRow 101 = .ok (.invokevirtual 201, 3) := by decide +kernel
theorem dX11_planRow_104 : decode cX11_planRow 104 = .ok (.ifCond .eq 17, 3) := by decide +kernel
theorem dX11_planRow_107 : decode cX11_planRow 107 = .ok (.aload_n 0, 1) := by decide +kernel
theorem dX11_planRow_108 : decode cX11_planRow 108 = .ok (.getfield 40, 3) := by decide +kernel
theorem dX11_planRow_111 : decode cX11_planRow 111 = .ok (.bipush 18, 2) := by decide +kernel
theorem dX11_planRow_113 : decode cX11_planRow 113 = .ok (.iload_n 1, 1) := by decide +kernel
theorem dX11_planRow_114 : decode cX11_planRow 114 = .ok (.iadd, 1) := by decide +kernel
theorem dX11_planRow_115 : decode cX11_planRow 115 = .ok (.iconst 1, 1) := by decide +kernel
theorem dX11_planRow_116 : decode cX11_planRow 116 = .ok (.iastore, 1) := by decide +kernel
theorem dX11_planRow_117 : decode cX11_planRow 117 = .ok (.aload_n 0, 1) := by decide +kernel
theorem dX11_planRow_118 : decode cX11_planRow 118 = .ok (.invokevirtual 191, 3) := by decide +kernel
theorem dX11_planRow_121 : decode cX11_planRow 121 = .ok (.iconst 1, 1) := by decide +kernel
theorem dX11_planRow_122 : decode cX11_planRow 122 = .ok (.ireturn, 1) := by decide +kernel
