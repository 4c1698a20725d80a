theorem dX11_against_0 : decode cX11_against 0 = .ok (.aload_n 0, 1) := by decide +kernel
theorem dX11_against_1 : decode cX11_against 1 = .ok (.iconst 0, 1) := by decide +kernel
theorem dX11_against_2 : decode cX11_against 2 = .ok (.putfield 1, 3) := by decide +kernel
theorem dX11_against_5 : decode cX11_against 5 = .ok (.iload_n 1, 1) := by decide +kernel
theorem dX11_against_6 : decode cX11_against 6 = .ok (.iconst 0, 1) := by decide +kernel
theorem dX11_against_7 : decode cX11_against 7 = .ok (.aload_n 0, 1) := by decide +kernel
theorem dX11_against_8 : decode cX11_against 8 = .ok (.getfield 374, 3) := by decide +kernel
theorem dX11_against_11 : decode cX11_against 11 = .ok (.iconst 1, 1) := by decide +kernel
theorem dX11_against_12 : decode cX11_against 12 = .ok (.isub, 1) := by decide +kernel
theorem dX11_against_13 : decode cX11_against 13 = .ok (.invokestatic 194, 3) := by decide +kernel
theorem dX11_against_16 : decode cX11_against 16 = .ok (.ifCond .eq 44, 3) := by decide +kernel
theorem dX11_against_19 : decode cX11_against 19 = .ok (.iload_n 2, 1) := by decide +kernel
theorem dX11_against_20 : decode cX11_against 20 = .ok (.iconst 0, 1) := by decide +kernel
theorem dX11_against_21 : decode cX11_against 21 = .ok (.aload_n 0, 1) := by decide +kernel
theorem dX11_against_22 : decode cX11_against 22 = .ok (.getfield 374, 3) := by decide +kernel
theorem dX11_against_25 : decode cX11_against 25 = .ok (.iconst 1, 1) := by decide +kernel
theorem dX11_against_26 : decode cX11_against 26 = .ok (.isub, 1) := by decide +kernel
theorem dX11_against_27 : decode cX11_against 27 = .ok (.invokestatic 194, 3) := by decide +kernel
theorem dX11_against_30 : decode cX11_against 30 = .ok (.ifCond .eq 30, 3) := by decide +kernel
theorem dX11_against_33 : decode cX11_against 33 = .ok (.iload_n 3, 1) := by decide +kernel
theorem dX11_against_34 : decode cX11_against 34 = .ok (.iconst 0, 1) := by decide +kernel
theorem dX11_against_35 : decode cX11_against 35 = .ok (.iconst 1, 1) := by decide +kernel
theorem dX11_against_36 : decode cX11_against 36 = .ok (.invokestatic 194, 3) := by decide +kernel
theorem dX11_against_39 : decode cX11_against 39 = .ok (.ifCond .eq 21, 3) := by decide +kernel
theorem dX11_against_42 : decode cX11_against 42 = .ok (.aload_n 0, 1) := by decide +kernel
theorem dX11_against_43 : decode cX11_against 43 = .ok (.getfield 90, 3) := by decide +kernel
theorem dX11_against_46 : decode cX11_against 46 = .ok (.bipush 12, 2) := by decide +kernel
theorem dX11_against_48 : decode cX11_against 48 = .ok (.iload_n 1, 1) := by decide +kernel
theorem dX11_against_49 : decode cX11_against 49 = .ok (.imul, 1) := by decide +kernel
theorem dX11_against_50 : decode cX11_against 50 = .ok (.iconst 2, 1) := by decide +kernel
theorem dX11_against_51 : decode cX11_against 51 = .ok (.iload_n 2, 1) := by decide +kernel
theorem dX11_against_52 : decode cX11_against 52 = .ok (.imul, 1) := by decide +kernel
theorem dX11_against_53 : decode cX11_against 53 = .ok (.iadd, 1) := by decide +kernel
theorem dX11_against_54 : decode cX11_against 54 = .ok (.iload_n 3, 1) := by decide +kernel
theorem dX11_against_55 : decode cX11_against 55 = .ok (.iadd, 1) := by decide +kernel
theorem dX11_against_56 : decode cX11_against 56 = .ok (.iaload, 1) := by decide +kernel
theorem dX11_against_57 : decode cX11_against 57 = .ok (.goto 6, 3) := by decide +kernel
theorem dX11_against_60 : decode cX11_against 60 = .ok (.sipush (-10001), 3) := by decide +kernel
theorem dX11_against_63 : decode cX11_against 63 = .ok (.ireturn, 1) := by decide +kernel
theorem dX11_reply_0 : decode cX11_reply 0 = .ok (.aload_n 0, 1) := by decide +kernel
theorem dX11_reply_1 : decode cX11_reply 1 = .ok (.iconst 0, 1) := by decide +kernel
theorem dX11_reply_2 : decode cX11_reply 2 = .ok (.putfield 1, 3) := by decide +kernel
theorem dX11_reply_5 : decode cX11_reply 5 = .ok (.iload_n 1, 1) := by decide +kernel
theorem dX11_reply_6 : decode cX11_reply 6 = .ok (.iconst 0, 1) := by decide +kernel
theorem dX11_reply_7 : decode cX11_reply 7 = .ok (.aload_n 0, 1) := by decide +kernel
theorem dX11_reply_8 : decode cX11_reply 8 = .ok (.getfield 374, 3) := by decide +kernel
theorem dX11_reply_11 : decode cX11_reply 11 = .ok (.iconst 1, 1) := by decide +kernel
theorem dX11_reply_12 : decode cX11_reply 12 = .ok (.isub, 1) := by decide +kernel
theorem dX11_reply_13 : decode cX11_reply 13 = .ok (.invokestatic 194, 3) := by decide +kernel
theorem dX11_reply_16 : decode cX11_reply 16 = .ok (.ifCond .ne 5, 3) := by decide +kernel
theorem dX11_reply_19 : decode cX11_reply 19 = .ok (.iconst (-1), 1) := by decide +kernel
theorem dX11_reply_20 : decode cX11_reply 20 = .ok (.ireturn, 1) := by decide +kernel
theorem dX11_reply_21 : decode cX11_reply 21 = .ok (.iconst 0, 1) := by decide +kernel
theorem dX11_reply_22 : decode cX11_reply 22 = .ok (.istore_n 2, 1) := by decide +kernel
theorem dX11_reply_23 : decode cX11_reply 23 = .ok (.iconst 1, 1) := by decide +kernel
theorem dX11_reply_24 : decode cX11_reply 24 = .ok (.istore_n 3, 1) := by decide +kernel
theorem dX11_reply_25 : decode cX11_reply 25 = .ok (.iload_n 3, 1) := by decide +kernel
theorem dX11_reply_26 : decode cX11_reply 26 = .ok (.aload_n 0, 1) := by decide +kernel
theorem dX11_reply_27 : decode cX11_reply 27 = .ok (.getfield 374, 3) := by decide +kernel
theorem dX11_reply_30 : decode cX11_reply 30 = .ok (.if_icmp .ge 40, 3) := by decide +kernel
theorem dX11_reply_33 : decode cX11_reply 33 = .ok (.aload_n 0, 1) := by decide +kernel
theorem dX11_reply_34 : decode cX11_reply 34 = .ok (.getfield 90, 3) := by decide +kernel
theorem dX11_reply_37 : decode cX11_reply 37 = .ok (.bipush 12, 2) := by decide +kernel
theorem dX11_reply_39 : decode cX11_reply 39 = .ok (.iload_n 3, 1) := by decide +kernel
theorem dX11_reply_40 : decode cX11_reply 40 = .ok (.imul, 1) := by decide +kernel
theorem dX11_reply_41 : decode cX11_reply 41 = .ok (.iconst 2, 1) := by decide +kernel
theorem dX11_reply_42 : decode cX11_reply 42 = .ok (.iload_n 1, 1) := by decide +kernel
theorem dX11_reply_43 : decode cX11_reply 43 = .ok (.imul, 1) := by decide +kernel
theorem dX11_reply_44 : decode cX11_reply 44 = .ok (.iadd, 1) := by decide +kernel
theorem dX11_reply_45 : decode cX11_reply 45 = .ok (.iaload, 1) := by decide +kernel
theorem dX11_reply_46 : decode cX11_reply 46 = .ok (.aload_n 0, 1) := by decide +kernel
theorem dX11_reply_47 : decode cX11_reply 47 = .ok (.getfield 90, 3) := by decide +kernel
theorem dX11_reply_50 : decode cX11_reply 50 = .ok (.bipush 12, 2) := by decide +kernel
theorem dX11_reply_52 : decode cX11_reply 52 = .ok (.iload_n 2, 1) := by decide +kernel
theorem dX11_reply_53 : decode cX11_reply 53 = .ok (.imul, 1) := by decide +kernel
theorem dX11_reply_54 : decode cX11_reply 54 = .ok (.iconst 2, 1) := by decide +kernel
theorem dX11_reply_55 : decode cX11_reply 55 = .ok (.iload_n 1, 1) := by decide +kernel
theorem dX11_reply_56 : decode cX11_reply 56 = .ok (.imul, 1) := by decide +kernel
theorem dX11_reply_57 : decode cX11_reply 57 = .ok (.iadd, 1) := by decide +kernel
theorem dX11_reply_58 : decode cX11_reply 58 = .ok (.iaload, 1) := by decide +kernel
theorem dX11_reply_59 : decode cX11_reply 59 = .ok (.if_icmp .le 5, 3) := by decide +kernel
theorem dX11_reply_62 : decode cX11_reply 62 = .ok (.iload_n 3, 1) := by decide +kernel
theorem dX11_reply_63 : decode cX11_reply 63 = .ok (.istore_n 2, 1) := by decide +kernel
theorem dX11_reply_64 : decode cX11_reply 64 = .ok (.iinc 3 1, 3) := by decide +kernel
theorem dX11_reply_67 : decode cX11_reply 67 = .ok (.goto (-42), 3) := by decide +kernel
theorem dX11_reply_70 : decode cX11_reply 70 = .ok (.iload_n 2, 1) := by decide +kernel
theorem dX11_reply_71 : decode cX11_reply 71 = .ok (.ireturn, 1) := by decide +kernel
theorem dX11_who_0 : decode cX11_who 0 = .ok (.aload_n 0, 1) := by decide +kernel
theorem dX11_who_1 : decode cX11_who 1 = .ok (.iconst 0, 1) := by decide +kernel
theorem dX11_who_2 : decode cX11_who 2 = .ok (.putfield 1, 3) := by decide +kernel
theorem dX11_who_5 : decode cX11_who 5 = .ok (.aload_n 0, 1) := by decide +kernel
theorem dX11_who_6 : decode cX11_who 6 = .ok (.iload_n 1, 1) := by decide +kernel
theorem dX11_who_7 : decode cX11_who 7 = .ok (.invokevirtual 265, 3) := by decide +kernel
theorem dX11_who_10 : decode cX11_who 10 = .ok (.ifCond .ne 5, 3) := by decide +kernel
theorem dX11_who_13 : decode cX11_who 13 = .ok (.iconst (-1), 1) := by decide +kernel
theorem dX11_who_14 : decode cX11_who 14 = .ok (.ireturn, 1) := by decide +kernel
theorem dX11_who_15 : decode cX11_who 15 = .ok (.iconst 0, 1) := by decide +kernel
theorem dX11_who_16 : decode cX11_who 16 = .ok (.istore_n 3, 1) := by decide +kernel
theorem dX11_who_17 : decode cX11_who 17 = .ok (.iconst 0, 1) := by decide +kernel
theorem dX11_who_18 : decode cX11_who 18 = .ok (.istore 4, 2) := by decide +kernel
theorem dX11_who_20 : decode cX11_who 20 = .ok (.iload 4, 2) := by decide +kernel
theorem dX11_who_22 : decode cX11_who 22 = .ok (.aload_n 0, 1) := by decide +kernel
theorem dX11_who_23 : decode cX11_who 23 = .ok (.getfield 33, 3) := by decide +kernel
theorem dX11_who_26 : decode cX11_who 26 = .ok (.iconst 2, 1) := by decide +kernel
theorem dX11_who_27 : decode cX11_who 27 = .ok (.iaload, 1) := by decide +kernel
theorem dX11_who_28 : decode cX11_who 28 = .ok (.if_icmp .ge 55, 3) := by decide +kernel
theorem dX11_who_31 : decode cX11_who 31 = .ok (.iload_n 3, 1) := by decide +kernel
theorem dX11_who_32 : decode cX11_who 32 = .ok (.aload_n 0, 1) := by decide +kernel
theorem dX11_who_33 : decode cX11_who 33 = .ok (.getfield 33, 3) := by decide +kernel
theorem dX11_who_36 : decode cX11_who 36 = .ok (.sipush 458, 3) := by decide +kernel
theorem dX11_who_39 : decode cX11_who 39 = .ok (.iload 4, 2) := by decide +kernel
theorem dX11_who_41 : decode cX11_who 41 = .ok (.iadd, 1) := by decide +kernel
theorem dX11_who_42 : decode cX11_who 42 = .ok (.iaload, 1) := by decide +kernel
theorem dX11_who_43 : decode cX11_who 43 = .ok (.ifCond .le 31, 3) := by decide +kernel
theorem dX11_who_46 : decode cX11_who 46 = .ok (.aload_n 0, 1) := by decide +kernel
theorem dX11_who_47 : decode cX11_who 47 = .ok (.iload 4, 2) := by decide +kernel
theorem dX11_who_49 : decode cX11_who 49 = .ok (.iload_n 1, 1) := by decide +kernel
theorem dX11_who_50 : decode cX11_who 50 = .ok (.invokevirtual 284, 3) := by decide +kernel
theorem dX11_who_53 : decode cX11_who 53 = .ok (.ifCond .ne 21, 3) := by decide +kernel
theorem dX11_who_56 : decode cX11_who 56 = .ok (.aload_n 0, 1) := by decide +kernel
theorem dX11_who_57 : decode cX11_who 57 = .ok (.iload 4, 2) := by decide +kernel
theorem dX11_who_59 : decode cX11_who 59 = .ok (.iload_n 1, 1) := by decide +kernel
theorem dX11_who_60 : decode cX11_who 60 = .ok (.invokevirtual 294, 3) := by decide +kernel
theorem dX11_who_63 : decode cX11_who 63 = .ok (.iload_n 2, 1) := by decide +kernel
theorem dX11_who_64 : decode cX11_who 64 = .ok (.if_icmp .ne 10, 3) := by decide +kernel
theorem dX11_who_67 : decode cX11_who 67 = .ok (.iconst 1, 1) := by decide +kernel
theorem dX11_who_68 : decode cX11_who 68 = .ok (.iload 4, 2) := by decide +kernel
theorem dX11_who_70 : decode cX11_who 70 = .ok (.ishl, 1) := by decide +kernel
theorem dX11_who_71 : decode cX11_who 71 = .ok (.goto 4, 3) := by decide +kernel
theorem dX11_who_74 : decode cX11_who 74 = .ok (.iconst 0, 1) := by decide +kernel
theorem dX11_who_75 : decode cX11_who 75 = .ok (.ior, 1) := by decide +kernel
theorem dX11_who_76 : decode cX11_who 76 = .ok (.istore_n 3, 1) := by decide +kernel
theorem dX11_who_77 : decode cX11_who 77 = .ok (.iinc 4 1, 3) := by decide +kernel
theorem dX11_who_80 : decode cX11_who 80 = .ok (.goto (-60), 3) := by decide +kernel
theorem dX11_who_83 : decode cX11_who 83 = .ok (.iload_n 3, 1) := by decide +kernel
theorem dX11_who_84 : decode cX11_who 84 = .ok (.ireturn, 1) := by decide +kernel
theorem dX11_odds_0 : decode cX11_odds 0 = .ok (.aload_n 0, 1) := by decide +kernel
theorem dX11_odds_1 : decode cX11_odds 1 = .ok (.iconst 0, 1) := by decide +kernel
theorem dX11_odds_2 : decode cX11_odds 2 = .ok (.putfield 1, 3) := by decide +kernel
theorem dX11_odds_5 : decode cX11_odds 5 = .ok (.aload_n 0, 1) := by decide +kernel
theorem dX11_odds_6 : decode cX11_odds 6 = .ok (.iload_n 1, 1) := by decide +kernel
theorem dX11_odds_7 : decode cX11_odds 7 = .ok (.invokevirtual 258, 3) := by decide +kernel
theorem dX11_odds_10 : decode cX11_odds 10 = .ok (.ifCond .eq 13, 3) := by decide +kernel
theorem dX11_odds_13 : decode cX11_odds 13 = .ok (.iload_n 2, 1) := by decide +kernel
theorem dX11_odds_14 : decode cX11_odds 14 = .ok (.iconst 1, 1) := by decide +kernel
theorem dX11_odds_15 : decode cX11_odds 15 = .ok (.bipush 60, 2) := by decide +kernel
theorem dX11_odds_17 : decode cX11_odds 17 = .ok (.invokestatic 194, 3) := by decide +kernel
theorem dX11_odds_20 : decode cX11_odds 20 = .ok (.ifCond .ne 5, 3) := by decide +kernel
theorem dX11_odds_23 : decode cX11_odds 23 = .ok (.iconst (-1), 1) := by decide +kernel
theorem dX11_odds_24 : decode cX11_odds 24 = .ok (.ireturn, 1) := by decide +kernel
theorem dX11_odds_25 : decode cX11_odds 25 = .ok (.aload_n 0, 1) := by decide +kernel
theorem dX11_odds_26 : decode cX11_odds 26 = .ok (.invokevirtual 323, 3) := by decide +kernel
theorem dX11_odds_29 : decode cX11_odds 29 = .ok (.aload_n 0, 1) := by decide +kernel
theorem dX11_odds_30 : decode cX11_odds 30 = .ok (.getfield 53, 3) := by decide +kernel
theorem dX11_odds_33 : decode cX11_odds 33 = .ok (.iload_n 1, 1) := by decide +kernel
theorem dX11_odds_34 : decode cX11_odds 34 = .ok (.iaload, 1) := by decide +kernel
theorem dX11_odds_35 : decode cX11_odds 35 = .ok (.istore 4, 2) := by decide +kernel
theorem dX11_odds_37 : decode cX11_odds 37 = .ok (.aload_n 0, 1) := by decide +kernel
theorem dX11_odds_38 : decode cX11_odds 38 = .ok (.invokevirtual 317, 3) := by decide +kernel
theorem dX11_odds_41 : decode cX11_odds 41 = .ok (.iconst 0, 1) := by decide +kernel
theorem dX11_odds_42 : decode cX11_odds 42 = .ok (.istore 5, 2) := by decide +kernel
theorem dX11_odds_44 : decode cX11_odds 44 = .ok (.iconst 0, 1) := by decide +kernel
theorem dX11_odds_45 : decode cX11_odds 45 = .ok (.istore 6, 2) := by decide +kernel
theorem dX11_odds_47 : decode cX11_odds 47 = .ok (.iload 6, 2) := by decide +kernel
theorem dX11_odds_49 : decode cX11_odds 49 = .ok (.iload_n 2, 1) := by decide +kernel
theorem dX11_odds_50 : decode cX11_odds 50 = .ok (.if_icmp .ge 61, 3) := by decide +kernel
theorem dX11_odds_53 : decode cX11_odds 53 = .ok (.aload_n 0, 1) := by decide +kernel
theorem dX11_odds_54 : decode cX11_odds 54 = .ok (.iload_n 3, 1) := by decide +kernel
theorem dX11_odds_55 : decode cX11_odds 55 = .ok (.iload 6, 2) := by decide +kernel
theorem dX11_odds_57 : decode cX11_odds 57 = .ok (.iadd, 1) := by decide +kernel
theorem dX11_odds_58 : decode cX11_odds 58 = .ok (.invokevirtual 248, 3) := by decide +kernel
theorem dX11_odds_61 : decode cX11_odds 61 = .ok (.aload_n 0, 1) := by decide +kernel
theorem dX11_odds_62 : decode cX11_odds 62 = .ok (.getfield 33, 3) := by decide +kernel
theorem dX11_odds_65 : decode cX11_odds 65 = .ok (.sipush 455, 3) := by decide +kernel
theorem dX11_odds_68 : decode cX11_odds 68 = .ok (.iaload, 1) := by decide +kernel
theorem dX11_odds_69 : decode cX11_odds 69 = .ok (.ifCond .ne 11, 3) := by decide +kernel
theorem dX11_odds_72 : decode cX11_odds 72 = .ok (.aload_n 0, 1) := by decide +kernel
theorem dX11_odds_73 : decode cX11_odds 73 = .ok (.iconst 0, 1) := by decide +kernel
theorem dX11_odds_74 : decode cX11_odds 74 = .ok (.invokevirtual 313, 3) := by decide +kernel
theorem dX11_odds_77 : decode cX11_odds 77 = .ok (.goto (-16), 3) := by decide +kernel
theorem dX11_odds_80 : decode cX11_odds 80 = .ok (.iload 5, 2) := by decide +kernel
theorem dX11_odds_82 : decode cX11_odds 82 = .ok (.aload_n 0, 1) := by decide +kernel
theorem dX11_odds_83 : decode cX11_odds 83 = .ok (.getfield 33, 3) := by decide +kernel
theorem dX11_odds_86 : decode cX11_odds 86 = .ok (.sipush 467, 3) := by decide +kernel
theorem dX11_odds_89 : decode cX11_odds 89 = .ok (.iload_n 1, 1) := by decide +kernel
theorem dX11_odds_90 : decode cX11_odds 90 = .ok (.iadd, 1) := by decide +kernel
theorem dX11_odds_91 : decode cX11_odds 91 = .ok (.iaload, 1) := by decide +kernel
theorem dX11_odds_92 : decode cX11_odds 92 = .ok (.iload 4, 2) := by decide +kernel
theorem dX11_odds_94 : decode cX11_odds 94 = .ok (.if_icmp .le 7, 3) := by decide +kernel
theorem dX11_odds_97 : decode cX11_odds 97 = .ok (.iconst 1, 1) := by decide +kernel
theorem dX11_odds_98 : decode cX11_odds 98 = .ok (.goto 4, 3) := by decide +kernel
theorem dX11_odds_101 : decode cX11_odds 101 = .ok (.iconst 0, 1) := by decide +kernel
theorem dX11_odds_102 : decode cX11_odds 102 = .ok (.iadd, 1) := by decide +kernel
theorem dX11_odds_103 : decode cX11_odds 103 = .ok (.istore 5, 2) := by decide +kernel
theorem dX11_odds_105 : decode cX11_odds 105 = .ok (.iinc 6 1, 3) := by decide +kernel
theorem dX11_odds_108 : decode cX11_odds 108 = .ok (.goto (-61), 3) := by decide +kernel
theorem dX11_odds_111 : decode cX11_odds 111 = .ok (.aload_n 0, 1) := by decide +kernel
theorem dX11_odds_112 : decode cX11_odds 112 = .ok (.invokevirtual 320, 3) := by decide +kernel
theorem dX11_odds_115 : decode cX11_odds 115 = .ok (.iload 5, 2) := by decide +kernel
theorem dX11_odds_117 : decode cX11_odds 117 = .ok (.ireturn, 1) := by decide +kernel
theorem dX11_code_0 : decode cX11_code 0 = .ok (.aload_n 0, 1) := by decide +kernel
theorem dX11_code_1 : decode cX11_code 1 = .ok (.getfield 40, 3) := by decide +kernel
theorem dX11_code_4 : decode cX11_code 4 = .ok (.iconst 3, 1) := by decide +kernel
theorem dX11_code_5 : decode cX11_code 5 = .ok (.aload_n 0, 1) := by decide +kernel
theorem dX11_code_6 : decode cX11_code 6 = .ok (.getfield 377, 3) := by decide +kernel
theorem dX11_code_9 : decode cX11_code 9 = .ok (.imul, 1) := by decide +kernel
theorem dX11_code_10 : decode cX11_code 10 = .ok (.iload_n 1, 1) := by decide +kernel
theorem dX11_code_11 : decode cX11_code 11 = .ok (.iastore, 1) := by decide +kernel
theorem dX11_code_12 : decode cX11_code 12 = .ok (.aload_n 0, 1) := by decide +kernel
theorem dX11_code_13 : decode cX11_code 13 = .ok (.getfield 40, 3) := by decide +kernel
theorem dX11_code_16 : decode cX11_code 16 = .ok (.iconst 3, 1) := by decide +kernel
theorem dX11_code_17 : decode cX11_code 17 = .ok (.aload_n 0, 1) := by decide +kernel
theorem dX11_code_18 : decode cX11_code 18 = .ok (.getfield 377, 3) := by decide +kernel
theorem dX11_code_21 : decode cX11_code 21 = .ok (.imul, 1) := by decide +kernel
theorem dX11_code_22 : decode cX11_code 22 = .ok (.iconst 1, 1) := by decide +kernel
theorem dX11_code_23 : decode cX11_code 23 = .ok (.iadd, 1) := by decide +kernel
theorem dX11_code_24 : decode cX11_code 24 = .ok (.iload_n 2, 1) := by decide +kernel
theorem dX11_code_25 : decode cX11_code 25 = .ok (.iastore, 1) := by decide +kernel
theorem dX11_code_26 : decode cX11_code 26 = .ok (.aload_n 0, 1) := by decide +kernel
theorem dX11_code_27 : decode cX11_code 27 = .ok (.getfield 40, 3) := by decide +kernel
theorem dX11_code_30 : decode cX11_code 30 = .ok (.iconst 3, 1) := by decide +kernel
theorem dX11_code_31 : decode cX11_code 31 = .ok (.aload_n 0, 1) := by decide +kernel
theorem dX11_code_32 : decode cX11_code 32 = .ok (.getfield 377, 3) := by decide +kernel
theorem dX11_code_35 : decode cX11_code 35 = .ok (.imul, 1) := by decide +kernel
theorem dX11_code_36 : decode cX11_code 36 = .ok (.iconst 2, 1) := by decide +kernel
theorem dX11_code_37 : decode cX11_code 37 = .ok (.iadd, 1) := by decide +kernel
theorem dX11_code_38 : decode cX11_code 38 = .ok (.iload_n 3, 1) := by decide +kernel
theorem dX11_code_39 : decode cX11_code 39 = .ok (.iastore, 1) := by decide +kernel
theorem dX11_code_40 : decode cX11_code 40 = .ok (.aload_n 0, 1) := by decide +kernel
theorem dX11_code_41 : decode cX11_code 41 = .ok (.dup, 1) := by decide +kernel
theorem dX11_code_42 : decode cX11_code 42 = .ok (.getfield 377, 3) := by decide +kernel
theorem dX11_code_45 : decode cX11_code 45 = .ok (.iconst 1, 1) := by decide +kernel
theorem dX11_code_46 : decode cX11_code 46 = .ok (.iadd, 1) := by decide +kernel
theorem dX11_code_47 : decode cX11_code 47 = .ok (.putfield 377, 3) := by decide +kernel
theorem dX11_code_50 : decode cX11_code 50 = .ok (.return_, 1) := by decide +kernel
theorem dX11_joins_0 : decode cX11_joins 0 = .ok (.aload_n 0, 1) := by decide +kernel
theorem dX11_joins_1 : decode cX11_joins 1 = .ok (.getfield 380, 3) := by decide +kernel
theorem dX11_joins_4 : decode cX11_joins 4 = .ok (.ifCond .le 69, 3) := by decide +kernel
theorem dX11_joins_7 : decode cX11_joins 7 = .ok (.aload_n 0, 1) := by decide +kernel
theorem dX11_joins_8 : decode cX11_joins 8 = .ok (.getfield 96, 3) := by decide +kernel
theorem dX11_joins_11 : decode cX11_joins 11 = .ok (.aload_n 0, 1) := by decide +kernel
theorem dX11_joins_12 : decode cX11_joins 12 = .ok (.getfield 380, 3) := by decide +kernel
theorem dX11_joins_15 : decode cX11_joins 15 = .ok (.iconst 1, 1) := by decide +kernel
theorem dX11_joins_16 : decode cX11_joins 16 = .ok (.isub, 1) := by decide +kernel
theorem dX11_joins_17 : decode cX11_joins 17 = .ok (.iaload, 1) := by decide +kernel
theorem dX11_joins_18 : decode cX11_joins 18 = .ok (.bipush 11, 2) := by decide +kernel
theorem dX11_joins_20 : decode cX11_joins 20 = .ok (.if_icmp .eq 25, 3) := by decide +kernel
theorem dX11_joins_23 : decode cX11_joins 23 = .ok (.aload_n 0, 1) := by decide +kernel
theorem dX11_joins_24 : decode cX11_joins 24 = .ok (.getfield 96, 3) := by decide +kernel
theorem dX11_joins_27 : decode cX11_joins 27 = .ok (.aload_n 0, 1) := by decide +kernel
theorem dX11_joins_28 : decode cX11_joins 28 = .ok (.getfield 380, 3) := by decide +kernel
theorem dX11_joins_31 : decode cX11_joins 31 = .ok (.iconst 1, 1) := by decide +kernel
theorem dX11_joins_32 : decode cX11_joins 32 = .ok (.isub, 1) := by decide +kernel
theorem dX11_joins_33 : decode cX11_joins 33 = .ok (.iaload, 1) := by decide +kernel
theorem dX11_joins_34 : decode cX11_joins 34 = .ok (.bipush 12, 2) := by decide +kernel
theorem dX11_joins_36 : decode cX11_joins 36 = .ok (.if_icmp .ne 37, 3) := by decide +kernel
theorem dX11_joins_39 : decode cX11_joins 39 = .ok (.iload_n 1, 1) := by decide +kernel
theorem dX11_joins_40 : decode cX11_joins 40 = .ok (.bipush 12, 2) := by decide +kernel
theorem dX11_joins_42 : decode cX11_joins 42 = .ok (.if_icmp .ne 31, 3) := by decide +kernel
theorem dX11_joins_45 : decode cX11_joins 45 = .ok (.aload_n 0, 1) := by decide +kernel
theorem dX11_joins_46 : decode cX11_joins 46 = .ok (.dup, 1) := by decide +kernel
theorem dX11_joins_47 : decode cX11_joins 47 = .ok (.getfield 380, 3) := by decide +kernel
theorem dX11_joins_50 : decode cX11_joins 50 = .ok (.iconst 1, 1) := by decide +kernel
theorem dX11_joins_51 : decode cX11_joins 51 = .ok (.isub, 1) := by decide +kernel
theorem dX11_joins_52 : decode cX11_joins 52 = .ok (.putfield 380, 3) := by decide +kernel
theorem dX11_joins_55 : decode cX11_joins 55 = .ok (.aload_n 0, 1) := by decide +kernel
theorem dX11_joins_56 : decode cX11_joins 56 = .ok (.aload_n 0, 1) := by decide +kernel
theorem dX11_joins_57 : decode cX11_joins 57 = .ok (.getfield 96, 3) := by decide +kernel
theorem dX11_joins_60 : decode cX11_joins 60 = .ok (.aload_n 0, 1) := by decide +kernel
theorem dX11_joins_61 : decode cX11_joins 61 = .ok (.getfield 380, 3) := by decide +kernel
theorem dX11_joins_64 : decode cX11_joins 64 = .ok (.iaload, 1) := by decide +kernel
theorem dX11_joins_65 : decode cX11_joins 65 = .ok (.iconst 0, 1) := by decide +kernel
theorem dX11_joins_66 : decode cX11_joins 66 = .ok (.iconst 0, 1) := by decide +kernel
theorem dX11_joins_67 : decode cX11_joins 67 = .ok (.invokevirtual 383, 3) := by decide +kernel
theorem dX11_joins_70 : decode cX11_joins 70 = .ok (.goto (-70), 3) := by decide +kernel
theorem dX11_joins_73 : decode cX11_joins 73 = .ok (.return_, 1) := by decide +kernel
theorem dX11_nots_0 : decode cX11_nots 0 = .ok (.aload_n 0, 1) := by decide +kernel
theorem dX11_nots_1 : decode cX11_nots 1 = .ok (.getfield 380, 3) := by decide +kernel
theorem dX11_nots_4 : decode cX11_nots 4 = .ok (.ifCond .le 50, 3) := by decide +kernel
theorem dX11_nots_7 : decode cX11_nots 7 = .ok (.aload_n 0, 1) := by decide +kernel
theorem dX11_nots_8 : decode cX11_nots 8 = .ok (.getfield 96, 3) := by decide +kernel
theorem dX11_nots_11 : decode cX11_nots 11 = .ok (.aload_n 0, 1) := by decide +kernel
theorem dX11_nots_12 : decode cX11_nots 12 = .ok (.getfield 380, 3) := by decide +kernel
theorem dX11_nots_15 : decode cX11_nots 15 = .ok (.iconst 1, 1) := by decide +kernel
theorem dX11_nots_16 : decode cX11_nots 16 = .ok (.isub, 1) := by decide +kernel
theorem dX11_nots_17 : decode cX11_nots 17 = .ok (.iaload, 1) := by decide +kernel
theorem dX11_nots_18 : decode cX11_nots 18 = .ok (.bipush 10, 2) := by decide +kernel
theorem dX11_nots_20 : decode cX11_nots 20 = .ok (.if_icmp .ne 34, 3) := by decide +kernel
theorem dX11_nots_23 : decode cX11_nots 23 = .ok (.aload_n 0, 1) := by decide +kernel
theorem dX11_nots_24 : decode cX11_nots 24 = .ok (.dup, 1) := by decide +kernel
theorem dX11_nots_25 : decode cX11_nots 25 = .ok (.getfield 380, 3) := by decide +kernel
theorem dX11_nots_28 : decode cX11_nots 28 = .ok (.iconst 1, 1) := by decide +kernel
theorem dX11_nots_29 : decode cX11_nots 29 = .ok (.isub, 1) := by decide +kernel
theorem dX11_nots_30 : decode cX11_nots 30 = .ok (.putfield 380, 3) := by decide +kernel
theorem dX11_nots_33 : decode cX11_nots 33 = .ok (.aload_n 0, 1) := by decide +kernel
theorem dX11_nots_34 : decode cX11_nots 34 = .ok (.dup, 1) := by decide +kernel
theorem dX11_nots_35 : decode cX11_nots 35 = .ok (.getfield 387, 3) := by decide +kernel
theorem dX11_nots_38 : decode cX11_nots 38 = .ok (.iconst 1, 1) := by decide +kernel
theorem dX11_nots_39 : decode cX11_nots 39 = .ok (.isub, 1) := by decide +kernel
theorem dX11_nots_40 : decode cX11_nots 40 = .ok (.putfield 387, 3) := by decide +kernel
theorem dX11_nots_43 : decode cX11_nots 43 = .ok (.aload_n 0, 1) := by decide +kernel
theorem dX11_nots_44 : decode cX11_nots 44 = .ok (.bipush 10, 2) := by decide +kernel
theorem dX11_nots_46 : decode cX11_nots 46 = .ok (.iconst 0, 1) := by decide +kernel
theorem dX11_nots_47 : decode cX11_nots 47 = .ok (.iconst 0, 1) := by decide +kernel
theorem dX11_nots_48 : decode cX11_nots 48 = .ok (.invokevirtual 383, 3) := by decide +kernel
theorem dX11_nots_51 : decode cX11_nots 51 = .ok (.goto (-51), 3) := by decide +kernel
theorem dX11_nots_54 : decode cX11_nots 54 = .ok (.return_, 1) := by decide +kernel
theorem dX11_leafOf_0 : decode cX11_leafOf 0 = .ok (.aload_n 0, 1) := by decide +kernel
theorem dX11_leafOf_1 : decode cX11_leafOf 1 = .ok (.ldc2_w 136, 3) := by decide +kernel
theorem dX11_leafOf_4 : decode cX11_leafOf 4 = .ok (.invokevirtual 201, 3) := by decide +kernel
theorem dX11_leafOf_7 : decode cX11_leafOf 7 = .ok (.ifCond .eq 7, 3) := by decide +kernel
theorem dX11_leafOf_10 : decode cX11_leafOf 10 = .ok (.iconst 0, 1) := by decide +kernel
theorem dX11_leafOf_11 : decode cX11_leafOf 11 = .ok (.goto 104, 3) := by decide +kernel
theorem dX11_leafOf_14 : decode cX11_leafOf 14 = .ok (.aload_n 0, 1) := by decide +kernel
theorem dX11_leafOf_15 : decode cX11_leafOf 15 = .ok (.ldc2_w 138, 3) := by decide +kernel
theorem dX11_leafOf_18 : decode cX11_leafOf 18 = .ok (.invokevirtual 201, 3) := by decide +kernel
theorem dX11_leafOf_21 : decode cX11_leafOf 21 = .ok (.ifCond .eq 7, 3) := by decide +kernel
theorem dX11_leafOf_24 : decode cX11_leafOf 24 = .ok (.iconst 1, 1) := by decide +kernel
theorem dX11_leafOf_25 : decode cX11_leafOf 25 = .ok (.goto 90, 3) := by decide +kernel
theorem dX11_leafOf_28 : decode cX11_leafOf 28 = .ok (.aload_n 0, 1) := by decide +kernel
theorem dX11_leafOf_29 : decode cX11_leafOf 29 = .ok (.ldc2_w 140, 3) := by decide +kernel
theorem dX11_leafOf_32 : decode cX11_leafOf 32 = .ok (.invokevirtual 201, 3) := by decide +kernel
theorem dX11_leafOf_35 : decode cX11_leafOf 35 = .ok (.ifCond .eq 7, 3) := by decide +kernel
theorem dX11_leafOf_38 : decode cX11_leafOf 38 = .ok (.iconst 2, 1) := by decide +kernel
theorem dX11_leafOf_39 : decode cX11_leafOf 39 = .ok (.goto 76, 3) := by decide +kernel
theorem dX11_leafOf_42 : decode cX11_leafOf 42 = .ok (.aload_n 0, 1) := by decide +kernel
theorem dX11_leafOf_43 : decode cX11_leafOf 43 = .ok (.ldc2_w 142, 3) := by decide +kernel
theorem dX11_leafOf_46 : decode cX11_leafOf 46 = .ok (.invokevirtual 201, 3) := by decide +kernel
theorem dX11_leafOf_49 : decode cX11_leafOf 49 = .ok (.ifCond .eq 7, 3) := by decide +kernel
theorem dX11_leafOf_52 : decode cX11_leafOf 52 = .ok (.iconst 3, 1) := by decide +kernel
theorem dX11_leafOf_53 : decode cX11_leafOf 53 = .ok (.goto 62, 3) := by decide +kernel
theorem dX11_leafOf_56 : decode cX11_leafOf 56 = .ok (.aload_n 0, 1) := by decide +kernel
theorem dX11_leafOf_57 : decode cX11_leafOf 57 = .ok (.ldc2_w 144, 3) := by decide +kernel
theorem dX11_leafOf_60 : decode cX11_leafOf 60 = .ok (.invokevirtual 201, 3) := by decide +kernel
theorem dX11_leafOf_63 : decode cX11_leafOf 63 = .ok (.ifCond .eq 7, 3) := by decide +kernel
theorem dX11_leafOf_66 : decode cX11_leafOf 66 = .ok (.iconst 4, 1) := by decide +kernel
theorem dX11_leafOf_67 : decode cX11_leafOf 67 = .ok (.goto 48, 3) := by decide +kernel
theorem dX11_leafOf_70 : decode cX11_leafOf 70 = .ok (.aload_n 0, 1) := by decide +kernel
theorem dX11_leafOf_71 : decode cX11_leafOf 71 = .ok (.ldc2_w 146, 3) := by decide +kernel
theorem dX11_leafOf_74 : decode cX11_leafOf 74 = .ok (.invokevirtual 201, 3) := by decide +kernel
theorem dX11_leafOf_77 : decode cX11_leafOf 77 = .ok (.ifCond .eq 7, 3) := by decide +kernel
theorem dX11_leafOf_80 : decode cX11_leafOf 80 = .ok (.iconst 5, 1) := by decide +kernel
theorem dX11_leafOf_81 : decode cX11_leafOf 81 = .ok (.goto 34, 3) := by decide +kernel
theorem dX11_leafOf_84 : decode cX11_leafOf 84 = .ok (.aload_n 0, 1) := by decide +kernel
theorem dX11_leafOf_85 : decode cX11_leafOf 85 = .ok (.ldc2_w 148, 3) := by decide +kernel
theorem dX11_leafOf_88 : decode cX11_leafOf 88 = .ok (.invokevirtual 201, 3) := by decide +kernel
theorem dX11_leafOf_91 : decode cX11_leafOf 91 = .ok (.ifCond .eq 8, 3) := by decide +kernel
theorem dX11_leafOf_94 : decode cX11_leafOf 94 = .ok (.bipush 6, 2) := by decide +kernel
theorem dX11_leafOf_96 : decode cX11_leafOf 96 = .ok (.goto 19, 3) := by decide +kernel
theorem dX11_leafOf_99 : decode cX11_leafOf 99 = .ok (.aload_n 0, 1) := by decide +kernel
theorem dX11_leafOf_100 : decode cX11_leafOf 100 = .ok (.ldc2_w 150, 3) := by decide +kernel
theorem dX11_leafOf_103 : decode cX11_leafOf 103 = .ok (.invokevirtual 201, 3) := by decide +kernel
theorem dX11_leafOf_106 : decode cX11_leafOf 106 = .ok (.ifCond .eq 8, 3) := by decide +kernel
theorem dX11_leafOf_109 : decode cX11_leafOf 109 = .ok (.bipush 7, 2) := by decide +kernel
theorem dX11_leafOf_111 : decode cX11_leafOf 111 = .ok (.goto 4, 3) := by decide +kernel
theorem dX11_leafOf_114 : decode cX11_leafOf 114 = .ok (.iconst (-1), 1) := by decide +kernel
theorem dX11_leafOf_115 : decode cX11_leafOf 115 = .ok (.ireturn, 1) := by decide +kernel
theorem dX11_operand_0 : decode cX11_operand 0 = .ok (.aload_n 0, 1) := by decide +kernel
theorem dX11_operand_1 : decode cX11_operand 1 = .ok (.ldc2_w 134, 3) := by decide +kernel
theorem dX11_operand_4 : decode cX11_operand 4 = .ok (.invokevirtual 201, 3) := by decide +kernel
theorem dX11_operand_7 : decode cX11_operand 7 = .ok (.istore_n 1, 1) := by decide +kernel
theorem dX11_operand_8 : decode cX11_operand 8 = .ok (.aload_n 0, 1) := by decide +kernel
theorem dX11_operand_9 : decode cX11_operand 9 = .ok (.bipush 40, 2) := by decide +kernel
theorem dX11_operand_11 : decode cX11_operand 11 = .ok (.invokevirtual 185, 3) := by decide +kernel
theorem dX11_operand_14 : decode cX11_operand 14 = .ok (.istore_n 2, 1) := by decide +kernel
theorem dX11_operand_15 : decode cX11_operand 15 = .ok (.aload_n 0, 1) := by decide +kernel
theorem dX11_operand_16 : decode cX11_operand 16 = .ok (.invokevirtual 390, 3) := by decide +kernel
theorem dX11_operand_19 : decode cX11_operand 19 = .ok (.istore_n 3, 1) := by decide +kernel
theorem dX11_operand_20 : decode cX11_operand 20 = .ok (.iload_n 1, 1) := by decide +kernel
theorem dX11_operand_21 : decode cX11_operand 21 = .ok (.ifCond .ne 17, 3) := by decide +kernel
theorem dX11_operand_24 : decode cX11_operand 24 = .ok (.iload_n 2, 1) := by decide +kernel
theorem dX11_operand_25 : decode cX11_operand 25 = .ok (.ifCond .ne 13, 3) := by decide +kernel
theorem dX11_operand_28 : decode cX11_operand 28 = .ok (.iload_n 3, 1) := by decide +kernel
theorem dX11_operand_29 : decode cX11_operand 29 = .ok (.ifCond .ge 9, 3) := by decide +kernel
theorem dX11_operand_32 : decode cX11_operand 32 = .ok (.aload_n 0, 1) := by decide +kernel
theorem dX11_operand_33 : decode cX11_operand 33 = .ok (.iconst 1, 1) := by decide +kernel
theorem dX11_operand_34 : decode cX11_operand 34 = .ok (.invokevirtual 188, 3) := by decide +kernel
theorem dX11_operand_37 : decode cX11_operand 37 = .ok (.ireturn, 1) := by decide +kernel
theorem dX11_operand_38 : decode cX11_operand 38 = .ok (.aload_n 0, 1) := by decide +kernel
theorem dX11_operand_39 : decode cX11_operand 39 = .ok (.getfield 393, 3) := by decide +kernel
theorem dX11_operand_42 : decode cX11_operand 42 = .ok (.bipush 20, 2) := by decide +kernel
theorem dX11_operand_44 : decode cX11_operand 44 = .ok (.if_icmp .eq 12, 3) := by decide +kernel
theorem dX11_operand_47 : decode cX11_operand 47 = .ok (.aload_n 0, 1) := by decide +kernel
theorem dX11_operand_48 : decode cX11_operand 48 = .ok (.getfield 387, 3) := by decide +kernel
theorem dX11_operand_51 : decode cX11_operand 51 = .ok (.bipush 8, 2) := by decide +kernel
theorem dX11_operand_53 : decode cX11_operand 53 = .ok (.if_icmp .le 9, 3) := by decide +kernel
theorem dX11_operand_56 : decode cX11_operand 56 = .ok (.aload_n 0, 1) := by decide +kernel
theorem dX11_operand_57 : decode cX11_operand 57 = .ok (.iconst 4, 1) := by decide +kernel
theorem dX11_operand_58 : decode cX11_operand 58 = .ok (.invokevirtual 188, 3) := by decide +kernel
theorem dX11_operand_61 : decode cX11_operand 61 = .ok (.ireturn, 1) := by decide +kernel
theorem dX11_operand_62 : decode cX11_operand 62 = .ok (.aload_n 0, 1) := by decide +kernel
theorem dX11_operand_63 : decode cX11_operand 63 = .ok (.dup, 1) := by decide +kernel
theorem dX11_operand_64 : decode cX11_operand 64 = .ok (.getfield 393, 3) := by decide +kernel
theorem dX11_operand_67 : decode cX11_operand 67 = .ok (.iconst 1, 1) := by decide +kernel
theorem dX11_operand_68 : decode cX11_operand 68 = .ok (.iadd, 1) := by decide +kernel
theorem dX11_operand_69 : decode cX11_operand 69 = .ok (.putfield 393, 3) := by decide +kernel
theorem dX11_operand_72 : decode cX11_operand 72 = .ok (.aload_n 0, 1) := by decide +kernel
theorem dX11_operand_73 : decode cX11_operand 73 = .ok (.invokevirtual 191, 3) := by decide +kernel
theorem dX11_operand_76 : decode cX11_operand 76 = .ok (.iload_n 1, 1) := by decide +kernel
theorem dX11_operand_77 : decode cX11_operand 77 = .ok (.ifCond .ne 7, 3) := by decide +kernel
theorem dX11_operand_80 : decode cX11_operand 80 = .ok (.iload_n 2, 1) := by decide +kernel
theorem dX11_operand_81 : decode cX11_operand 81 = .ok (.ifCond .eq 45, 3) := by decide +kernel
theorem dX11_operand_84 : decode cX11_operand 84 = .ok (.aload_n 0, 1) := by decide +kernel
theorem dX11_operand_85 : decode cX11_operand 85 = .ok (.getfield 96, 3) := by decide +kernel
theorem dX11_operand_88 : decode cX11_operand 88 = .ok (.aload_n 0, 1) := by decide +kernel
theorem dX11_operand_89 : decode cX11_operand 89 = .ok (.getfield 380, 3) := by decide +kernel
theorem dX11_operand_92 : decode cX11_operand 92 = .ok (.iload_n 1, 1) := by decide +kernel
theorem dX11_operand_93 : decode cX11_operand 93 = .ok (.ifCond .eq 8, 3) := by decide +kernel
theorem dX11_operand_96 : decode cX11_operand 96 = .ok (.bipush 10, 2) := by decide +kernel
theorem dX11_operand_98 : decode cX11_operand 98 = .ok (.goto 5, 3) := by decide +kernel
theorem dX11_operand_101 : decode cX11_operand 101 = .ok (.bipush 13, 2) := by decide +kernel
theorem dX11_operand_103 : decode cX11_operand 103 = .ok (.iastore, 1) := by decide +kernel
theorem dX11_operand_104 : decode cX11_operand 104 = .ok (.aload_n 0, 1) := by decide +kernel
theorem dX11_operand_105 : decode cX11_operand 105 = .ok (.dup, 1) := by decide +kernel
theorem dX11_operand_106 : decode cX11_operand 106 = .ok (.getfield 380, 3) := by decide +kernel
theorem dX11_operand_109 : decode cX11_operand 109 = .ok (.iconst 1, 1) := by decide +kernel
theorem dX11_operand_110 : decode cX11_operand 110 = .ok (.iadd, 1) := by decide +kernel
theorem dX11_operand_111 : decode cX11_operand 111 = .ok (.putfield 380, 3) := by decide +kernel
theorem dX11_operand_114 : decode cX11_operand 114 = .ok (.aload_n 0, 1) := by decide +kernel
theorem dX11_operand_115 : decode cX11_operand 115 = .ok (.dup, 1) := by decide +kernel
theorem dX11_operand_116 : decode cX11_operand 116 = .ok (.getfield 387, 3) := by decide +kernel
theorem dX11_operand_119 : decode cX11_operand 119 = .ok (.iconst 1, 1) := by decide +kernel
theorem dX11_operand_120 : decode cX11_operand 120 = .ok (.iadd, 1) := by decide +kernel
theorem dX11_operand_121 : decode cX11_operand 121 = .ok (.putfield 387, 3) := by decide +kernel
theorem dX11_operand_124 : decode cX11_operand 124 = .ok (.iconst 1, 1) := by decide +kernel
theorem dX11_operand_125 : decode cX11_operand 125 = .ok (.ireturn, 1) := by decide +kernel
theorem dX11_operand_126 : decode cX11_operand 126 = .ok (.aload_n 0, 1) := by decide +kernel
theorem dX11_operand_127 : decode cX11_operand 127 = .ok (.iconst 1, 1) := by decide +kernel
theorem dX11_operand_128 : decode cX11_operand 128 = .ok (.putfield 396, 3) := by decide +kernel
theorem dX11_operand_131 : decode cX11_operand 131 = .ok (.iload_n 3, 1) := by decide +kernel
theorem dX11_operand_132 : decode cX11_operand 132 = .ok (.ifCond .ne 12, 3) := by decide +kernel
theorem dX11_operand_135 : decode cX11_operand 135 = .ok (.aload_n 0, 1) := by decide +kernel
theorem dX11_operand_136 : decode cX11_operand 136 = .ok (.iload_n 3, 1) := by decide +kernel
theorem dX11_operand_137 : decode cX11_operand 137 = .ok (.iconst 0, 1) := by decide +kernel
theorem dX11_operand_138 : decode cX11_operand 138 = .ok (.iconst 0, 1) := by decide +kernel
theorem dX11_operand_139 : decode cX11_operand 139 = .ok (.invokevirtual 383, 3) := by decide +kernel
theorem dX11_operand_142 : decode cX11_operand 142 = .ok (.iconst 1, 1) := by decide +kernel
theorem dX11_operand_143 : decode cX11_operand 143 = .ok (.ireturn, 1) := by decide +kernel
theorem dX11_operand_144 : decode cX11_operand 144 = .ok (.iload_n 3, 1) := by decide +kernel
theorem dX11_operand_145 : decode cX11_operand 145 = .ok (.iconst 1, 1) := by decide +kernel
theorem dX11_operand_146 : decode cX11_operand 146 = .ok (.if_icmp .ne 54, 3) := by decide +kernel
theorem dX11_operand_149 : decode cX11_operand 149 = .ok (.aload_n 0, 1) := by decide +kernel
theorem dX11_operand_150 : decode cX11_operand 150 = .ok (.invokevirtual 223, 3) := by decide +kernel
theorem dX11_operand_153 : decode cX11_operand 153 = .ok (.ifCond .ne 9, 3) := by decide +kernel
theorem dX11_operand_156 : decode cX11_operand 156 = .ok (.aload_n 0, 1) := by decide +kernel
theorem dX11_operand_157 : decode cX11_operand 157 = .ok (.iconst 1, 1) := by decide +kernel
theorem dX11_operand_158 : decode cX11_operand 158 = .ok (.invokevirtual 188, 3) := by decide +kernel
theorem dX11_operand_161 : decode cX11_operand 161 = .ok (.ireturn, 1) := by decide +kernel
theorem dX11_operand_162 : decode cX11_operand 162 = .ok (.aload_n 0, 1) := by decide +kernel
theorem dX11_operand_163 : decode cX11_operand 163 = .ok (.iconst 0, 1) := by decide +kernel
theorem dX11_operand_164 : decode cX11_operand 164 = .ok (.aload_n 0, 1) := by decide +kernel
theorem dX11_operand_165 : decode cX11_operand 165 = .ok (.getfield 33, 3) := by decide +kernel
theorem dX11_operand_168 : decode cX11_operand 168 = .ok (.iconst 2, 1) := by decide +kernel
theorem dX11_operand_169 : decode cX11_operand 169 = .ok (.iaload, 1) := by decide +kernel
theorem dX11_operand_170 : decode cX11_operand 170 = .ok (.invokevirtual 226, 3) := by decide +kernel
theorem dX11_operand_173 : decode cX11_operand 173 = .ok (.istore 4, 2) := by decide +kernel
theorem dX11_operand_175 : decode cX11_operand 175 = .ok (.iload 4, 2) := by decide +kernel
theorem dX11_operand_177 : decode cX11_operand 177 = .ok (.ifCond .ge 9, 3) := by decide +kernel
theorem dX11_operand_180 : decode cX11_operand 180 = .ok (.aload_n 0, 1) := by decide +kernel
theorem dX11_operand_181 : decode cX11_operand 181 = .ok (.iconst 3, 1) := by decide +kernel
theorem dX11_operand_182 : decode cX11_operand 182 = .ok (.invokevirtual 188, 3) := by decide +kernel
theorem dX11_operand_185 : decode cX11_operand 185 = .ok (.ireturn, 1) := by decide +kernel
theorem dX11_operand_186 : decode cX11_operand 186 = .ok (.aload_n 0, 1) := by decide +kernel
theorem dX11_operand_187 : decode cX11_operand 187 = .ok (.iload_n 3, 1) := by decide +kernel
theorem dX11_operand_188 : decode cX11_operand 188 = .ok (.iconst 0, 1) := by decide +kernel
theorem dX11_operand_189 : decode cX11_operand 189 = .ok (.iload 4, 2) := by decide +kernel
theorem dX11_operand_191 : decode cX11_operand 191 = .ok (.invokevirtual 383, 3) := by decide +kernel
theorem dX11_operand_194 : decode cX11_operand 194 = .ok (.aload_n 0, 1) := by decide +kernel
theorem dX11_operand_195 : decode cX11_operand 195 = .ok (.invokevirtual 191, 3) := by decide +kernel
theorem dX11_operand_198 : decode cX11_operand 198 = .ok (.iconst 1, 1) := by decide +kernel
theorem dX11_operand_199 : decode cX11_operand 199 = .ok (.ireturn, 1) := by decide +kernel
theorem dX11_operand_200 : decode cX11_operand 200 = .ok (.aload_n 0, 1) := by decide +kernel
theorem dX11_operand_201 : decode cX11_operand 201 = .ok (.getfield 162, 3) := by decide +kernel
theorem dX11_operand_204 : decode cX11_operand 204 = .ok (.iconst 3, 1) := by decide +kernel
theorem dX11_operand_205 : decode cX11_operand 205 = .ok (.if_icmp .ne 21, 3) := by decide +kernel
theorem dX11_operand_208 : decode cX11_operand 208 = .ok (.aload_n 0, 1) := by decide +kernel
theorem dX11_operand_209 : decode cX11_operand 209 = .ok (.getfield 172, 3) := by decide +kernel
theorem dX11_operand_212 : decode cX11_operand 212 = .ok (.bipush 60, 2) := by decide +kernel
theorem dX11_operand_214 : decode cX11_operand 214 = .ok (.if_icmp .lt 12, 3) := by decide +kernel
theorem dX11_operand_217 : decode cX11_operand 217 = .ok (.aload_n 0, 1) := by decide +kernel
theorem dX11_operand_218 : decode cX11_operand 218 = .ok (.getfield 172, 3) := by decide +kernel
theorem dX11_operand_221 : decode cX11_operand 221 = .ok (.bipush 62, 2) := by decide +kernel
theorem dX11_operand_223 : decode cX11_operand 223 = .ok (.if_icmp .le 9, 3) := by decide +kernel
theorem dX11_operand_226 : decode cX11_operand 226 = .ok (.aload_n 0, 1) := by decide +kernel
theorem dX11_operand_227 : decode cX11_operand 227 = .ok (.iconst 1, 1) := by decide +kernel
theorem dX11_operand_228 : decode cX11_operand 228 = .ok (.invokevirtual 188, 3) := by decide +kernel
theorem dX11_operand_231 : decode cX11_operand 231 = .ok (.ireturn, 1) := by decide +kernel
theorem dX11_operand_232 : decode cX11_operand 232 = .ok (.aload_n 0, 1) := by decide +kernel
theorem dX11_operand_233 : decode cX11_operand 233 = .ok (.getfield 172, 3) := by decide +kernel
theorem dX11_operand_236 : decode cX11_operand 236 = .ok (.istore 4, 2) := by decide +kernel
theorem dX11_operand_238 : decode cX11_operand 238 = .ok (.aload_n 0, 1) := by decide +kernel
theorem dX11_operand_239 : decode cX11_operand 239 = .ok (.invokevirtual 191, 3) := by decide +kernel
theorem dX11_operand_242 : decode cX11_operand 242 = .ok (.aload_n 0, 1) := by decide +kernel
theorem dX11_operand_243 : decode cX11_operand 243 = .ok (.getfield 162, 3) := by decide +kernel
theorem dX11_operand_246 : decode cX11_operand 246 = .ok (.iconst 2, 1) := by decide +kernel
theorem dX11_operand_247 : decode cX11_operand 247 = .ok (.if_icmp .eq 9, 3) := by decide +kernel
theorem dX11_operand_250 : decode cX11_operand 250 = .ok (.aload_n 0, 1) := by decide +kernel
theorem dX11_operand_251 : decode cX11_operand 251 = .ok (.iconst 1, 1) := by decide +kernel
theorem dX11_operand_252 : decode cX11_operand 252 = .ok (.invokevirtual 188, 3) := by decide +kernel
theorem dX11_operand_255 : decode cX11_operand 255 = .ok (.ireturn, 1) := by decide +kernel
theorem dX11_operand_256 : decode cX11_operand 256 = .ok (.aload_n 0, 1) := by decide +kernel
theorem dX11_operand_257 : decode cX11_operand 257 = .ok (.iload_n 3, 1) := by decide +kernel
theorem dX11_operand_258 : decode cX11_operand 258 = .ok (.iload 4, 2) := by decide +kernel
theorem dX11_operand_260 : decode cX11_operand 260 = .ok (.aload_n 0, 1) := by decide +kernel
theorem dX11_operand_261 : decode cX11_operand 261 = .ok (.getfield 172, 3) := by decide +kernel
theorem dX11_operand_264 : decode cX11_operand 264 = .ok (.invokevirtual 383, 3) := by decide +kernel
theorem dX11_operand_267 : decode cX11_operand 267 = .ok (.aload_n 0, 1) := by decide +kernel
theorem dX11_operand_268 : decode cX11_operand 268 = .ok (.invokevirtual 191, 3) := by decide +kernel
theorem dX11_operand_271 : decode cX11_operand 271 = .ok (.iconst 1, 1) := by decide +kernel
theorem dX11_operand_272 : decode cX11_operand 272 = .ok (.ireturn, 1) := by decide +kernel
theorem dX11_behind_0 : decode cX11_behind 0 = .ok (.aload_n 0, 1) := by decide +kernel
theorem dX11_behind_1 : decode cX11_behind 1 = .ok (.invokevirtual 399, 3) := by decide +kernel
theorem dX11_behind_4 : decode cX11_behind 4 = .ok (.aload_n 0, 1) := by decide +kernel
theorem dX11_behind_5 : decode cX11_behind 5 = .ok (.ldc2_w 132, 3) := by decide +kernel
theorem dX11_behind_8 : decode cX11_behind 8 = .ok (.invokevirtual 201, 3) := by decide +kernel
theorem dX11_behind_11 : decode cX11_behind 11 = .ok (.ifCond .ne 13, 3) := by decide +kernel
theorem dX11_behind_14 : decode cX11_behind 14 = .ok (.aload_n 0, 1) := by decide +kernel
theorem dX11_behind_15 : decode cX11_behind 15 = .ok (.ldc2_w 130, 3) := by decide +kernel
theorem dX11_behind_18 : decode cX11_behind 18 = .ok (.invokevirtual 201, 3) := by decide +kernel
theorem dX11_behind_21 : decode cX11_behind 21 = .ok (.ifCond .eq 71, 3) := by decide +kernel
theorem dX11_behind_24 : decode cX11_behind 24 = .ok (.aload_n 0, 1) := by decide +kernel
theorem dX11_behind_25 : decode cX11_behind 25 = .ok (.aload_n 0, 1) := by decide +kernel
theorem dX11_behind_26 : decode cX11_behind 26 = .ok (.ldc2_w 132, 3) := by decide +kernel
theorem dX11_behind_29 : decode cX11_behind 29 = .ok (.invokevirtual 201, 3) := by decide +kernel
theorem dX11_behind_32 : decode cX11_behind 32 = .ok (.ifCond .eq 8, 3) := by decide +kernel
theorem dX11_behind_35 : decode cX11_behind 35 = .ok (.bipush 11, 2) := by decide +kernel
theorem dX11_behind_37 : decode cX11_behind 37 = .ok (.goto 5, 3) := by decide +kernel
theorem dX11_behind_40 : decode cX11_behind 40 = .ok (.bipush 12, 2) := by decide +kernel
theorem dX11_behind_42 : decode cX11_behind 42 = .ok (.invokevirtual 402, 3) := by decide +kernel
theorem dX11_behind_45 : decode cX11_behind 45 = .ok (.aload_n 0, 1) := by decide +kernel
theorem dX11_behind_46 : decode cX11_behind 46 = .ok (.getfield 96, 3) := by decide +kernel
theorem dX11_behind_49 : decode cX11_behind 49 = .ok (.aload_n 0, 1) := by decide +kernel
theorem dX11_behind_50 : decode cX11_behind 50 = .ok (.getfield 380, 3) := by decide +kernel
theorem dX11_behind_53 : decode cX11_behind 53 = .ok (.aload_n 0, 1) := by decide +kernel
theorem dX11_behind_54 : decode cX11_behind 54 = .ok (.ldc2_w 132, 3) := by decide +kernel
theorem dX11_behind_57 : decode cX11_behind 57 = .ok (.invokevirtual 201, 3) := by decide +kernel
theorem dX11_behind_60 : decode cX11_behind 60 = .ok (.ifCond .eq 8, 3) := by decide +kernel
theorem dX11_behind_63 : decode cX11_behind 63 = .ok (.bipush 11, 2) := by decide +kernel
theorem dX11_behind_65 : decode cX11_behind 65 = .ok (.goto 5, 3) := by decide +kernel
theorem dX11_behind_68 : decode cX11_behind 68 = .ok (.bipush 12, 2) := by decide +kernel
theorem dX11_behind_70 : decode cX11_behind 70 = .ok (.iastore, 1) := by decide +kernel
theorem dX11_behind_71 : decode cX11_behind 71 = .ok (.aload_n 0, 1) := by decide +kernel
theorem dX11_behind_72 : decode cX11_behind 72 = .ok (.dup, 1) := by decide +kernel
theorem dX11_behind_73 : decode cX11_behind 73 = .ok (.getfield 380, 3) := by decide +kernel
theorem dX11_behind_76 : decode cX11_behind 76 = .ok (.iconst 1, 1) := by decide +kernel
theorem dX11_behind_77 : decode cX11_behind 77 = .ok (.iadd, 1) := by decide +kernel
theorem dX11_behind_78 : decode cX11_behind 78 = .ok (.putfield 380, 3) := by decide +kernel
theorem dX11_behind_81 : decode cX11_behind 81 = .ok (.aload_n 0, 1) := by decide +kernel
theorem dX11_behind_82 : decode cX11_behind 82 = .ok (.iconst 0, 1) := by decide +kernel
theorem dX11_behind_83 : decode cX11_behind 83 = .ok (.putfield 396, 3) := by decide +kernel
theorem dX11_behind_86 : decode cX11_behind 86 = .ok (.aload_n 0, 1) := by decide +kernel
theorem dX11_behind_87 : decode cX11_behind 87 = .ok (.invokevirtual 191, 3) := by decide +kernel
theorem dX11_behind_90 : decode cX11_behind 90 = .ok (.iconst 1, 1) := by decide +kernel
theorem dX11_behind_91 : decode cX11_behind 91 = .ok (.ireturn, 1) := by decide +kernel
theorem dX11_behind_92 : decode cX11_behind 92 = .ok (.aload_n 0, 1) := by decide +kernel
theorem dX11_behind_93 : decode cX11_behind 93 = .ok (.bipush 12, 2) := by decide +kernel
theorem dX11_behind_95 : decode cX11_behind 95 = .ok (.invokevirtual 402, 3) := by decide +kernel
theorem dX11_behind_98 : decode cX11_behind 98 = .ok (.aload_n 0, 1) := by decide +kernel
theorem dX11_behind_99 : decode cX11_behind 99 = .ok (.bipush 41, 2) := by decide +kernel
theorem dX11_behind_101 : decode cX11_behind 101 = .ok (.invokevirtual 185, 3) := by decide +kernel
theorem dX11_behind_104 : decode cX11_behind 104 = .ok (.ifCond .eq 10, 3) := by decide +kernel
theorem dX11_behind_107 : decode cX11_behind 107 = .ok (.aload_n 0, 1) := by decide +kernel
theorem dX11_behind_108 : decode cX11_behind 108 = .ok (.getfield 380, 3) := by decide +kernel
theorem dX11_behind_111 : decode cX11_behind 111 = .ok (.ifCond .ne 9, 3) := by decide +kernel
theorem dX11_behind_114 : decode cX11_behind 114 = .ok (.aload_n 0, 1) := by decide +kernel
theorem dX11_behind_115 : decode cX11_behind 115 = .ok (.iconst 1, 1) := by decide +kernel
theorem dX11_behind_116 : decode cX11_behind 116 = .ok (.invokevirtual 188, 3) := by decide +kernel
theorem dX11_behind_119 : decode cX11_behind 119 = .ok (.ireturn, 1) := by decide +kernel
theorem dX11_behind_120 : decode cX11_behind 120 = .ok (.aload_n 0, 1) := by decide +kernel
theorem dX11_behind_121 : decode cX11_behind 121 = .ok (.dup, 1) := by decide +kernel
theorem dX11_behind_122 : decode cX11_behind 122 = .ok (.getfield 380, 3) := by decide +kernel
theorem dX11_behind_125 : decode cX11_behind 125 = .ok (.iconst 1, 1) := by decide +kernel
theorem dX11_behind_126 : decode cX11_behind 126 = .ok (.isub, 1) := by decide +kernel
theorem dX11_behind_127 : decode cX11_behind 127 = .ok (.putfield 380, 3) := by decide +kernel
theorem dX11_behind_130 : decode cX11_behind 130 = .ok (.aload_n 0, 1) := by decide +kernel
theorem dX11_behind_131 : decode cX11_behind 131 = .ok (.dup, 1) := by decide +kernel
theorem dX11_behind_132 : decode cX11_behind 132 = .ok (.getfield 387, 3) := by decide +kernel
theorem dX11_behind_135 : decode cX11_behind 135 = .ok (.iconst 1, 1) := by decide +kernel
theorem dX11_behind_136 : decode cX11_behind 136 = .ok (.isub, 1) := by decide +kernel
theorem dX11_behind_137 : decode cX11_behind 137 = .ok (.putfield 387, 3) := by decide +kernel
theorem dX11_behind_140 : decode cX11_behind 140 = .ok (.aload_n 0, 1) := by decide +kernel
theorem dX11_behind_141 : decode cX11_behind 141 = .ok (.invokevirtual 191, 3) := by decide +kernel
theorem dX11_behind_144 : decode cX11_behind 144 = .ok (.iconst 1, 1) := by decide +kernel
theorem dX11_behind_145 : decode cX11_behind 145 = .ok (.ireturn, 1) := by decide +kernel
theorem dX11_sentence_0 : decode cX11_sentence 0 = .ok (.aload_n 0, 1) := by decide +kernel
theorem dX11_sentence_1 : decode cX11_sentence 1 = .ok (.iconst 0, 1) := by decide +kernel
theorem dX11_sentence_2 : decode cX11_sentence 2 = .ok (.putfield 1, 3) := by decide +kernel
theorem dX11_sentence_5 : decode cX11_sentence 5 = .ok (.aload_n 0, 1) := by decide +kernel
theorem dX11_sentence_6 : decode cX11_sentence 6 = .ok (.sipush 200, 3) := by decide +kernel
theorem dX11_sentence_9 : decode cX11_sentence 9 = .ok (.invokevirtual 236, 3) := by decide +kernel
theorem dX11_sentence_12 : decode cX11_sentence 12 = .ok (.aload_n 0, 1) := by decide +kernel
theorem dX11_sentence_13 : decode cX11_sentence 13 = .ok (.iconst 0, 1) := by decide +kernel
theorem dX11_sentence_14 : decode cX11_sentence 14 = .ok (.putfield 179, 3) := by decide +kernel
theorem dX11_sentence_17 : decode cX11_sentence 17 = .ok (.aload_n 0, 1) := by decide +kernel
theorem dX11_sentence_18 : decode cX11_sentence 18 = .ok (.iconst 0, 1) := by decide +kernel
theorem dX11_sentence_19 : decode cX11_sentence 19 = .ok (.putfield 377, 3) := by decide +kernel
theorem dX11_sentence_22 : decode cX11_sentence 22 = .ok (.aload_n 0, 1) := by decide +kernel
theorem dX11_sentence_23 : decode cX11_sentence 23 = .ok (.iconst 0, 1) := by decide +kernel
theorem dX11_sentence_24 : decode cX11_sentence 24 = .ok (.putfield 393, 3) := by decide +kernel
theorem dX11_sentence_27 : decode cX11_sentence 27 = .ok (.aload_n 0, 1) := by decide +kernel
theorem dX11_sentence_28 : decode cX11_sentence 28 = .ok (.iconst 0, 1) := by decide +kernel
theorem dX11_sentence_29 : decode cX11_sentence 29 = .ok (.putfield 380, 3) := by decide +kernel
theorem dX11_sentence_32 : decode cX11_sentence 32 = .ok (.aload_n 0, 1) := by decide +kernel
theorem dX11_sentence_33 : decode cX11_sentence 33 = .ok (.iconst 1, 1) := by decide +kernel
theorem dX11_sentence_34 : decode cX11_sentence 34 = .ok (.putfield 387, 3) := by decide +kernel
theorem dX11_sentence_37 : decode cX11_sentence 37 = .ok (.aload_n 0, 1) := by decide +kernel
theorem dX11_sentence_38 : decode cX11_sentence 38 = .ok (.iconst 0, 1) := by decide +kernel
theorem dX11_sentence_39 : decode cX11_sentence 39 = .ok (.putfield 396, 3) := by decide +kernel
theorem dX11_sentence_42 : decode cX11_sentence 42 = .ok (.aload_n 0, 1) := by decide +kernel
theorem dX11_sentence_43 : decode cX11_sentence 43 = .ok (.invokevirtual 191, 3) := by decide +kernel
theorem dX11_sentence_46 : decode cX11_sentence 46 = .ok (.iconst 1, 1) := by decide +kernel
theorem dX11_sentence_47 : decode cX11_sentence 47 = .ok (.istore_n 1, 1) := by decide +kernel
theorem dX11_sentence_48 : decode cX11_sentence 48 = .ok (.iload_n 1, 1) := by decide +kernel
theorem dX11_sentence_49 : decode cX11_sentence 49 = .ok (.ifCond .eq 83, 3) := by decide +kernel
theorem dX11_sentence_52 : decode cX11_sentence 52 = .ok (.aload_n 0, 1) := by decide +kernel
theorem dX11_sentence_53 : decode cX11_sentence 53 = .ok (.getfield 396, 3) := by decide +kernel
theorem dX11_sentence_56 : decode cX11_sentence 56 = .ok (.ifCond .eq 45, 3) := by decide +kernel
theorem dX11_sentence_59 : decode cX11_sentence 59 = .ok (.aload_n 0, 1) := by decide +kernel
theorem dX11_sentence_60 : decode cX11_sentence 60 = .ok (.getfield 162, 3) := by decide +kernel
theorem dX11_sentence_63 : decode cX11_sentence 63 = .ok (.ifCond .ne 38, 3) := by decide +kernel
theorem dX11_sentence_66 : decode cX11_sentence 66 = .ok (.aload_n 0, 1) := by decide +kernel
theorem dX11_sentence_67 : decode cX11_sentence 67 = .ok (.invokevirtual 399, 3) := by decide +kernel
theorem dX11_sentence_70 : decode cX11_sentence 70 = .ok (.aload_n 0, 1) := by decide +kernel
theorem dX11_sentence_71 : decode cX11_sentence 71 = .ok (.bipush 12, 2) := by decide +kernel
theorem dX11_sentence_73 : decode cX11_sentence 73 = .ok (.invokevirtual 402, 3) := by decide +kernel
theorem dX11_sentence_76 : decode cX11_sentence 76 = .ok (.aload_n 0, 1) := by decide +kernel
theorem dX11_sentence_77 : decode cX11_sentence 77 = .ok (.getfield 380, 3) := by decide +kernel
theorem dX11_sentence_80 : decode cX11_sentence 80 = .ok (.ifCond .le 16, 3) := by decide +kernel
theorem dX11_sentence_83 : decode cX11_sentence 83 = .ok (.aload_n 0, 1) := by decide +kernel
theorem dX11_sentence_84 : decode cX11_sentence 84 = .ok (.iconst 1, 1) := by decide +kernel
theorem dX11_sentence_85 : decode cX11_sentence 85 = .ok (.invokevirtual 188, 3) := by decide +kernel
theorem dX11_sentence_88 : decode cX11_sentence 88 = .ok (.pop, 1) := by decide +kernel
theorem dX11_sentence_89 : decode cX11_sentence 89 = .ok (.iconst (-1), 1) := by decide +kernel
theorem dX11_sentence_90 : decode cX11_sentence 90 = .ok (.aload_n 0, 1) := by decide +kernel
theorem dX11_sentence_91 : decode cX11_sentence 91 = .ok (.getfield 182, 3) := by decide +kernel
theorem dX11_sentence_94 : decode cX11_sentence 94 = .ok (.isub, 1) := by decide +kernel
theorem dX11_sentence_95 : decode cX11_sentence 95 = .ok (.ireturn, 1) := by decide +kernel
theorem dX11_sentence_96 : decode cX11_sentence 96 = .ok (.iconst 0, 1) := by decide +kernel
theorem dX11_sentence_97 : decode cX11_sentence 97 = .ok (.istore_n 1, 1) := by decide +kernel
theorem dX11_sentence_98 : decode cX11_sentence 98 = .ok (.goto (-50), 3) := by decide +kernel
theorem dX11_sentence_101 : decode cX11_sentence 101 = .ok (.aload_n 0, 1) := by decide +kernel
theorem dX11_sentence_102 : decode cX11_sentence 102 = .ok (.getfield 396, 3) := by decide +kernel
theorem dX11_sentence_105 : decode cX11_sentence 105 = .ok (.ifCond .eq 13, 3) := by decide +kernel
theorem dX11_sentence_108 : decode cX11_sentence 108 = .ok (.aload_n 0, 1) := by decide +kernel
theorem dX11_sentence_109 : decode cX11_sentence 109 = .ok (.invokevirtual 405, 3) := by decide +kernel
theorem dX11_sentence_112 : decode cX11_sentence 112 = .ok (.ifCond .ne (-64), 3) := by decide +kernel
theorem dX11_sentence_115 : decode cX11_sentence 115 = .ok (.goto 10, 3) := by decide +kernel
theorem dX11_sentence_118 : decode cX11_sentence 118 = .ok (.aload_n 0, 1) := by decide +kernel
theorem dX11_sentence_119 : decode cX11_sentence 119 = .ok (.invokevirtual 408, 3) := by decide +kernel
theorem dX11_sentence_122 : decode cX11_sentence 122 = .ok (.ifCond .ne (-74), 3) := by decide +kernel
theorem dX11_sentence_125 : decode cX11_sentence 125 = .ok (.iconst (-1), 1) := by decide +kernel
theorem dX11_sentence_126 : decode cX11_sentence 126 = .ok (.aload_n 0, 1) := by decide +kernel
theorem dX11_sentence_127 : decode cX11_sentence 127 = .ok (.getfield 182, 3) := by decide +kernel
theorem dX11_sentence_130 : decode cX11_sentence 130 = .ok (.isub, 1) := by decide +kernel
theorem dX11_sentence_131 : decode cX11_sentence 131 = .ok (.ireturn, 1) := by decide +kernel
theorem dX11_sentence_132 : decode cX11_sentence 132 = .ok (.aload_n 0, 1) := by decide +kernel
theorem dX11_sentence_133 : decode cX11_sentence 133 = .ok (.getfield 33, 3) := by decide +kernel
theorem dX11_sentence_136 : decode cX11_sentence 136 = .ok (.sipush 974, 3) := by decide +kernel
theorem dX11_sentence_139 : decode cX11_sentence 139 = .ok (.aload_n 0, 1) := by decide +kernel
theorem dX11_sentence_140 : decode cX11_sentence 140 = .ok (.getfield 377, 3) := by decide +kernel
theorem dX11_sentence_143 : decode cX11_sentence 143 = .ok (.iastore, 1) := by decide +kernel
theorem dX11_sentence_144 : decode cX11_sentence 144 = .ok (.iconst 0, 1) := by decide +kernel
theorem dX11_sentence_145 : decode cX11_sentence 145 = .ok (.istore_n 2, 1) := by decide +kernel
theorem dX11_sentence_146 : decode cX11_sentence 146 = .ok (.iload_n 2, 1) := by decide +kernel
theorem dX11_sentence_147 : decode cX11_sentence 147 = .ok (.iconst 3, 1) := by decide +kernel
theorem dX11_sentence_148 : decode cX11_sentence 148 = .ok (.aload_n 0, 1) := by decide +kernel
theorem dX11_sentence_149 : decode cX11_sentence 149 = .ok (.getfield 377, 3) := by decide +kernel
theorem dX11_sentence_152 : decode cX11_sentence 152 = .ok (.imul, 1) := by decide +kernel
theorem dX11_sentence_153 : decode cX11_sentence 153 = .ok (.if_icmp .ge 25, 3) := by decide +kernel
theorem dX11_sentence_156 : decode cX11_sentence 156 = .ok (.aload_n 0, 1) := by decide +kernel
theorem dX11_sentence_157 : decode cX11_sentence 157 = .ok (.getfield 33, 3) := by decide +kernel
theorem dX11_sentence_160 : decode cX11_sentence 160 = .ok (.sipush 975, 3) := by decide +kernel
theorem dX11_sentence_163 : decode cX11_sentence 163 = .ok (.iload_n 2, 1) := by decide +kernel
theorem dX11_sentence_164 : decode cX11_sentence 164 = .ok (.iadd, 1) := by decide +kernel
theorem dX11_sentence_165 : decode cX11_sentence 165 = .ok (.aload_n 0, 1) := by decide +kernel
theorem dX11_sentence_166 : decode cX11_sentence 166 = .ok (.getfield 40, 3) := by decide +kernel
theorem dX11_sentence_169 : decode cX11_sentence 169 = .ok (.iload_n 2, 1) := by decide +kernel
theorem dX11_sentence_170 : decode cX11_sentence 170 = .ok (.iaload, 1) := by decide +kernel
theorem dX11_sentence_171 : decode cX11_sentence 171 = .ok (.iastore, 1) := by decide +kernel
theorem dX11_sentence_172 : decode cX11_sentence 172 = .ok (.iinc 2 1, 3) := by decide +kernel
theorem dX11_sentence_175 : decode cX11_sentence 175 = .ok (.goto (-29), 3) := by decide +kernel
theorem dX11_sentence_178 : decode cX11_sentence 178 = .ok (.aload_n 0, 1) := by decide +kernel
theorem dX11_sentence_179 : decode cX11_sentence 179 = .ok (.getfield 393, 3) := by decide +kernel
theorem dX11_sentence_182 : decode cX11_sentence 182 = .ok (.ireturn, 1) := by decide +kernel
theorem dX11_isLeaf_0 : decode cX11_isLeaf 0 = .ok (.iload_n 2, 1) := by decide +kernel
theorem dX11_isLeaf_1 : decode cX11_isLeaf 1 = .ok (.ifCond .ne 23, 3) := by decide +kernel
theorem dX11_isLeaf_4 : decode cX11_isLeaf 4 = .ok (.aload_n 0, 1) := by decide +kernel
theorem dX11_isLeaf_5 : decode cX11_isLeaf 5 = .ok (.getfield 33, 3) := by decide +kernel
theorem dX11_isLeaf_8 : decode cX11_isLeaf 8 = .ok (.sipush 445, 3) := by decide +kernel
theorem dX11_isLeaf_11 : decode cX11_isLeaf 11 = .ok (.iload_n 1, 1) := by decide +kernel
theorem dX11_isLeaf_12 : decode cX11_isLeaf 12 = .ok (.iadd, 1) := by decide +kernel
theorem dX11_isLeaf_13 : decode cX11_isLeaf 13 = .ok (.iaload, 1) := by decide +kernel
theorem dX11_isLeaf_14 : decode cX11_isLeaf 14 = .ok (.iconst 1, 1) := by decide +kernel
theorem dX11_isLeaf_15 : decode cX11_isLeaf 15 = .ok (.if_icmp .ne 7, 3) := by decide +kernel
theorem dX11_isLeaf_18 : decode cX11_isLeaf 18 = .ok (.iconst 1, 1) := by decide +kernel
theorem dX11_isLeaf_19 : decode cX11_isLeaf 19 = .ok (.goto 4, 3) := by decide +kernel
theorem dX11_isLeaf_22 : decode cX11_isLeaf 22 = .ok (.iconst 0, 1) := by decide +kernel
theorem dX11_isLeaf_23 : decode cX11_isLeaf 23 = .ok (.ireturn, 1) := by decide +kernel
theorem dX11_isLeaf_24 : decode cX11_isLeaf 24 = .ok (.iload_n 2, 1) := by decide +kernel
theorem dX11_isLeaf_25 : decode cX11_isLeaf 25 = .ok (.iconst 1, 1) := by decide +kernel
theorem dX11_isLeaf_26 : decode cX11_isLeaf 26 = .ok (.if_icmp .ne 70, 3) := by decide +kernel
theorem dX11_isLeaf_29 : decode cX11_isLeaf 29 = .ok (.aload_n 0, 1) := by decide +kernel
theorem dX11_isLeaf_30 : decode cX11_isLeaf 30 = .ok (.getfield 33, 3) := by decide +kernel
theorem dX11_isLeaf_33 : decode cX11_isLeaf 33 = .ok (.sipush 455, 3) := by decide +kernel
theorem dX11_isLeaf_36 : decode cX11_isLeaf 36 = .ok (.iaload, 1) := by decide +kernel
theorem dX11_isLeaf_37 : decode cX11_isLeaf 37 = .ok (.iconst 3, 1) := by decide +kernel
theorem dX11_isLeaf_38 : decode cX11_isLeaf 38 = .ok (.if_icmp .ge 19, 3) := by decide +kernel
theorem dX11_isLeaf_41 : decode cX11_isLeaf 41 = .ok (.aload_n 0, 1) := by decide +kernel
theorem dX11_isLeaf_42 : decode cX11_isLeaf 42 = .ok (.iload_n 1, 1) := by decide +kernel
theorem dX11_isLeaf_43 : decode cX11_isLeaf 43 = .ok (.aload_n 0, 1) := by decide +kernel
theorem dX11_isLeaf_44 : decode cX11_isLeaf 44 = .ok (.getfield 33, 3) := by decide +kernel
theorem dX11_isLeaf_47 : decode cX11_isLeaf 47 = .ok (.sipush 456, 3) := by decide +kernel
theorem dX11_isLeaf_50 : decode cX11_isLeaf 50 = .ok (.iaload, 1) := by decide +kernel
theorem dX11_isLeaf_51 : decode cX11_isLeaf 51 = .ok (.invokevirtual 300, 3) := by decide +kernel
theorem dX11_isLeaf_54 : decode cX11_isLeaf 54 = .ok (.goto 4, 3) := by decide +kernel
theorem dX11_isLeaf_57 : decode cX11_isLeaf 57 = .ok (.iconst (-1), 1) := by decide +kernel
theorem dX11_isLeaf_58 : decode cX11_isLeaf 58 = .ok (.istore 5, 2) := by decide +kernel
theorem dX11_isLeaf_60 : decode cX11_isLeaf 60 = .ok (.iload 5, 2) := by decide +kernel
theorem dX11_isLeaf_62 : decode cX11_isLeaf 62 = .ok (.ifCond .lt 32, 3) := by decide +kernel
theorem dX11_isLeaf_65 : decode cX11_isLeaf 65 = .ok (.iload_n 1, 1) := by decide +kernel
theorem dX11_isLeaf_66 : decode cX11_isLeaf 66 = .ok (.iload 4, 2) := by decide +kernel
theorem dX11_isLeaf_68 : decode cX11_isLeaf 68 = .ok (.if_icmp .eq 26, 3) := by decide +kernel
theorem dX11_isLeaf_71 : decode cX11_isLeaf 71 = .ok (.iload 5, 2) := by decide +kernel
theorem dX11_isLeaf_73 : decode cX11_isLeaf 73 = .ok (.aload_n 0, 1) := by decide +kernel
theorem dX11_isLeaf_74 : decode cX11_isLeaf 74 = .ok (.iload 4, 2) := by decide +kernel
theorem dX11_isLeaf_76 : decode cX11_isLeaf 76 = .ok (.aload_n 0, 1) := by decide +kernel
theorem dX11_isLeaf_77 : decode cX11_isLeaf 77 = .ok (.getfield 33, 3) := by decide +kernel
theorem dX11_isLeaf_80 : decode cX11_isLeaf 80 = .ok (.sipush 456, 3) := by decide +kernel
theorem dX11_isLeaf_83 : decode cX11_isLeaf 83 = .ok (.iaload, 1) := by decide +kernel
theorem dX11_isLeaf_84 : decode cX11_isLeaf 84 = .ok (.invokevirtual 300, 3) := by decide +kernel
theorem dX11_isLeaf_87 : decode cX11_isLeaf 87 = .ok (.if_icmp .ne 7, 3) := by decide +kernel
theorem dX11_isLeaf_90 : decode cX11_isLeaf 90 = .ok (.iconst 1, 1) := by decide +kernel
theorem dX11_isLeaf_91 : decode cX11_isLeaf 91 = .ok (.goto 4, 3) := by decide +kernel
theorem dX11_isLeaf_94 : decode cX11_isLeaf 94 = .ok (.iconst 0, 1) := by decide +kernel
theorem dX11_isLeaf_95 : decode cX11_isLeaf 95 = .ok (.ireturn, 1) := by decide +kernel
theorem dX11_isLeaf_96 : decode cX11_isLeaf 96 = .ok (.iload_n 2, 1) := by decide +kernel
theorem dX11_isLeaf_97 : decode cX11_isLeaf 97 = .ok (.iconst 2, 1) := by decide +kernel
theorem dX11_isLeaf_98 : decode cX11_isLeaf 98 = .ok (.if_icmp .ne 16, 3) := by decide +kernel
theorem dX11_isLeaf_101 : decode cX11_isLeaf 101 = .ok (.aload_n 0, 1) := by decide +kernel
theorem dX11_isLeaf_102 : decode cX11_isLeaf 102 = .ok (.getfield 33, 3) := by decide +kernel
theorem dX11_isLeaf_105 : decode cX11_isLeaf 105 = .ok (.sipush 458, 3) := by decide +kernel
theorem dX11_isLeaf_108 : decode cX11_isLeaf 108 = .ok (.iload_n 1, 1) := by decide +kernel
theorem dX11_isLeaf_109 : decode cX11_isLeaf 109 = .ok (.iadd, 1) := by decide +kernel
theorem dX11_isLeaf_110 : decode cX11_isLeaf 110 = .ok (.iaload, 1) := by decide +kernel
theorem dX11_isLeaf_111 : decode cX11_isLeaf 111 = .ok (.goto 79, 3) := by decide +kernel
theorem dX11_isLeaf_114 : decode cX11_isLeaf 114 = .ok (.iload_n 2, 1) := by decide +kernel
theorem dX11_isLeaf_115 : decode cX11_isLeaf 115 = .ok (.iconst 3, 1) := by decide +kernel
theorem dX11_isLeaf_116 : decode cX11_isLeaf 116 = .ok (.if_icmp .ne 16, 3) := by decide +kernel
theorem dX11_isLeaf_119 : decode cX11_isLeaf 119 = .ok (.aload_n 0, 1) := by decide +kernel
theorem dX11_isLeaf_120 : decode cX11_isLeaf 120 = .ok (.getfield 33, 3) := by decide +kernel
theorem dX11_isLeaf_123 : decode cX11_isLeaf 123 = .ok (.sipush 467, 3) := by decide +kernel
theorem dX11_isLeaf_126 : decode cX11_isLeaf 126 = .ok (.iload_n 1, 1) := by decide +kernel
theorem dX11_isLeaf_127 : decode cX11_isLeaf 127 = .ok (.iadd, 1) := by decide +kernel
theorem dX11_isLeaf_128 : decode cX11_isLeaf 128 = .ok (.iaload, 1) := by decide +kernel
theorem dX11_isLeaf_129 : decode cX11_isLeaf 129 = .ok (.goto 61, 3) := by decide +kernel
theorem dX11_isLeaf_132 : decode cX11_isLeaf 132 = .ok (.iload_n 2, 1) := by decide +kernel
theorem dX11_isLeaf_133 : decode cX11_isLeaf 133 = .ok (.iconst 4, 1) := by decide +kernel
theorem dX11_isLeaf_134 : decode cX11_isLeaf 134 = .ok (.if_icmp .ne 16, 3) := by decide +kernel
theorem dX11_isLeaf_137 : decode cX11_isLeaf 137 = .ok (.aload_n 0, 1) := by decide +kernel
theorem dX11_isLeaf_138 : decode cX11_isLeaf 138 = .ok (.getfield 33, 3) := by decide +kernel
theorem dX11_isLeaf_141 : decode cX11_isLeaf 141 = .ok (.sipush 476, 3) := by decide +kernel
theorem dX11_isLeaf_144 : decode cX11_isLeaf 144 = .ok (.iload_n 1, 1) := by decide +kernel
theorem dX11_isLeaf_145 : decode cX11_isLeaf 145 = .ok (.iadd, 1) := by decide +kernel
theorem dX11_isLeaf_146 : decode cX11_isLeaf 146 = .ok (.iaload, 1) := by decide +kernel
theorem dX11_isLeaf_147 : decode cX11_isLeaf 147 = .ok (.goto 43, 3) := by decide +kernel
theorem dX11_isLeaf_150 : decode cX11_isLeaf 150 = .ok (.iload_n 2, 1) := by decide +kernel
theorem dX11_isLeaf_151 : decode cX11_isLeaf 151 = .ok (.iconst 5, 1) := by decide +kernel
theorem dX11_isLeaf_152 : decode cX11_isLeaf 152 = .ok (.if_icmp .ne 15, 3) := by decide +kernel
theorem dX11_isLeaf_155 : decode cX11_isLeaf 155 = .ok (.aload_n 0, 1) := by decide +kernel
theorem dX11_isLeaf_156 : decode cX11_isLeaf 156 = .ok (.getfield 33, 3) := by decide +kernel
theorem dX11_isLeaf_159 : decode cX11_isLeaf 159 = .ok (.bipush 29, 2) := by decide +kernel
theorem dX11_isLeaf_161 : decode cX11_isLeaf 161 = .ok (.iload_n 1, 1) := by decide +kernel
theorem dX11_isLeaf_162 : decode cX11_isLeaf 162 = .ok (.iadd, 1) := by decide +kernel
theorem dX11_isLeaf_163 : decode cX11_isLeaf 163 = .ok (.iaload, 1) := by decide +kernel
theorem dX11_isLeaf_164 : decode cX11_isLeaf 164 = .ok (.goto 26, 3) := by decide +kernel
theorem dX11_isLeaf_167 : decode cX11_isLeaf 167 = .ok (.iload_n 2, 1) := by decide +kernel
theorem dX11_isLeaf_168 : decode cX11_isLeaf 168 = .ok (.bipush 6, 2) := by decide +kernel
theorem dX11_isLeaf_170 : decode cX11_isLeaf 170 = .ok (.if_icmp .ne 19, 3) := by decide +kernel
theorem dX11_isLeaf_173 : decode cX11_isLeaf 173 = .ok (.aload_n 0, 1) := by decide +kernel
theorem dX11_isLeaf_174 : decode cX11_isLeaf 174 = .ok (.aload_n 0, 1) := by decide +kernel
theorem dX11_isLeaf_175 : decode cX11_isLeaf 175 = .ok (.getfield 33, 3) := by decide +kernel
theorem dX11_isLeaf_178 : decode cX11_isLeaf 178 = .ok (.bipush 11, 2) := by decide +kernel
theorem dX11_isLeaf_180 : decode cX11_isLeaf 180 = .ok (.iload_n 1, 1) := by decide +kernel
theorem dX11_isLeaf_181 : decode cX11_isLeaf 181 = .ok (.iadd, 1) := by decide +kernel
theorem dX11_isLeaf_182 : decode cX11_isLeaf 182 = .ok (.iaload, 1) := by decide +kernel
theorem dX11_isLeaf_183 : decode cX11_isLeaf 183 = .ok (.invokevirtual 297, 3) := by decide +kernel
theorem dX11_isLeaf_186 : decode cX11_isLeaf 186 = .ok (.goto 4, 3) := by decide +kernel
theorem dX11_isLeaf_189 : decode cX11_isLeaf 189 = .ok (.iload_n 1, 1) := by decide +kernel
theorem dX11_isLeaf_190 : decode cX11_isLeaf 190 = .ok (.istore 5, 2) := by decide +kernel
theorem dX11_isLeaf_192 : decode cX11_isLeaf 192 = .ok (.iload_n 3, 1) := by decide +kernel
theorem dX11_isLeaf_193 : decode cX11_isLeaf 193 = .ok (.bipush 60, 2) := by decide +kernel
theorem dX11_isLeaf_195 : decode cX11_isLeaf 195 = .ok (.if_icmp .ne 18, 3) := by decide +kernel
theorem dX11_isLeaf_198 : decode cX11_isLeaf 198 = .ok (.iload 5, 2) := by decide +kernel
theorem dX11_isLeaf_200 : decode cX11_isLeaf 200 = .ok (.iload 4, 2) := by decide +kernel
theorem dX11_isLeaf_202 : decode cX11_isLeaf 202 = .ok (.if_icmp .ge 7, 3) := by decide +kernel
theorem dX11_isLeaf_205 : decode cX11_isLeaf 205 = .ok (.iconst 1, 1) := by decide +kernel
theorem dX11_isLeaf_206 : decode cX11_isLeaf 206 = .ok (.goto 40, 3) := by decide +kernel
theorem dX11_isLeaf_209 : decode cX11_isLeaf 209 = .ok (.iconst 0, 1) := by decide +kernel
theorem dX11_isLeaf_210 : decode cX11_isLeaf 210 = .ok (.goto 36, 3) := by decide +kernel
theorem dX11_isLeaf_213 : decode cX11_isLeaf 213 = .ok (.iload_n 3, 1) := by decide +kernel
theorem dX11_isLeaf_214 : decode cX11_isLeaf 214 = .ok (.bipush 61, 2) := by decide +kernel
theorem dX11_isLeaf_216 : decode cX11_isLeaf 216 = .ok (.if_icmp .ne 18, 3) := by decide +kernel
theorem dX11_isLeaf_219 : decode cX11_isLeaf 219 = .ok (.iload 5, 2) := by decide +kernel
theorem dX11_isLeaf_221 : decode cX11_isLeaf 221 = .ok (.iload 4, 2) := by decide +kernel
theorem dX11_isLeaf_223 : decode cX11_isLeaf 223 = .ok (.if_icmp .ne 7, 3) := by decide +kernel
theorem dX11_isLeaf_226 : decode cX11_isLeaf 226 = .ok (.iconst 1, 1) := by decide +kernel
theorem dX11_isLeaf_227 : decode cX11_isLeaf 227 = .ok (.goto 19, 3) := by decide +kernel
theorem dX11_isLeaf_230 : decode cX11_isLeaf 230 = .ok (.iconst 0, 1) := by decide +kernel
theorem dX11_isLeaf_231 : decode cX11_isLeaf 231 = .ok (.goto 15, 3) := by decide +kernel
theorem dX11_isLeaf_234 : decode cX11_isLeaf 234 = .ok (.iload 5, 2) := by decide +kernel
theorem dX11_isLeaf_236 : decode cX11_isLeaf 236 = .ok (.iload 4, 2) := by decide +kernel
theorem dX11_isLeaf_238 : decode cX11_isLeaf 238 = .ok (.if_icmp .le 7, 3) := by decide +kernel
theorem dX11_isLeaf_241 : decode cX11_isLeaf 241 = .ok (.iconst 1, 1) := by decide +kernel
theorem dX11_isLeaf_242 : decode cX11_isLeaf 242 = .ok (.goto 4, 3) := by decide +kernel
theorem dX11_isLeaf_245 : decode cX11_isLeaf 245 = .ok (.iconst 0, 1) := by decide +kernel
theorem dX11_isLeaf_246 : decode cX11_isLeaf 246 = .ok (.ireturn, 1) := by decide +kernel
theorem dX11_isSaid_0 : decode cX11_isSaid 0 = .ok (.iconst 0, 1) := by decide +kernel
theorem dX11_isSaid_1 : decode cX11_isSaid 1 = .ok (.istore_n 2, 1) := by decide +kernel
theorem dX11_isSaid_2 : decode cX11_isSaid 2 = .ok (.iconst 0, 1) := by decide +kernel
theorem dX11_isSaid_3 : decode cX11_isSaid 3 = .ok (.istore_n 3, 1) := by decide +kernel
theorem dX11_isSaid_4 : decode cX11_isSaid 4 = .ok (.iload_n 3, 1) := by decide +kernel
theorem dX11_isSaid_5 : decode cX11_isSaid 5 = .ok (.aload_n 0, 1) := by decide +kernel
theorem dX11_isSaid_6 : decode cX11_isSaid 6 = .ok (.getfield 33, 3) := by decide +kernel
theorem dX11_isSaid_9 : decode cX11_isSaid 9 = .ok (.sipush 974, 3) := by decide +kernel
theorem dX11_isSaid_12 : decode cX11_isSaid 12 = .ok (.iaload, 1) := by decide +kernel
theorem dX11_isSaid_13 : decode cX11_isSaid 13 = .ok (.if_icmp .ge 199, 3) := by decide +kernel
theorem dX11_isSaid_16 : decode cX11_isSaid 16 = .ok (.sipush 975, 3) := by decide +kernel
theorem dX11_isSaid_19 : decode cX11_isSaid 19 = .ok (.iconst 3, 1) := by decide +kernel
theorem dX11_isSaid_20 : decode cX11_isSaid 20 = .ok (.iload_n 3, 1) := by decide +kernel
theorem dX11_isSaid_21 : decode cX11_isSaid 21 = .ok (.imul, 1) := by decide +kernel
theorem dX11_isSaid_22 : decode cX11_isSaid 22 = .ok (.iadd, 1) := by decide +kernel
theorem dX11_isSaid_23 : decode cX11_isSaid 23 = .ok (.istore 4, 2) := by decide +kernel
theorem dX11_isSaid_25 : decode cX11_isSaid 25 = .ok (.aload_n 0, 1) := by decide +kernel
theorem dX11_isSaid_26 : decode cX11_isSaid 26 = .ok (.getfield 33, 3) := by decide +kernel
theorem dX11_isSaid_29 : decode cX11_isSaid 29 = .ok (.iload 4, 2) := by decide +kernel
theorem dX11_isSaid_31 : decode cX11_isSaid 31 = .ok (.iaload, 1) := by decide +kernel
theorem dX11_isSaid_32 : decode cX11_isSaid 32 = .ok (.bipush 10, 2) := by decide +kernel
theorem dX11_isSaid_34 : decode cX11_isSaid 34 = .ok (.if_icmp .ne 30, 3) := by decide +kernel
theorem dX11_isSaid_37 : decode cX11_isSaid 37 = .ok (.aload_n 0, 1) := by decide +kernel
theorem dX11_isSaid_38 : decode cX11_isSaid 38 = .ok (.getfield 99, 3) := by decide +kernel
theorem dX11_isSaid_41 : decode cX11_isSaid 41 = .ok (.iload_n 2, 1) := by decide +kernel
theorem dX11_isSaid_42 : decode cX11_isSaid 42 = .ok (.iconst 1, 1) := by decide +kernel
theorem dX11_isSaid_43 : decode cX11_isSaid 43 = .ok (.isub, 1) := by decide +kernel
theorem dX11_isSaid_44 : decode cX11_isSaid 44 = .ok (.aload_n 0, 1) := by decide +kernel
theorem dX11_isSaid_45 : decode cX11_isSaid 45 = .ok (.getfield 99, 3) := by decide +kernel
theorem dX11_isSaid_48 : decode cX11_isSaid 48 = .ok (.iload_n 2, 1) := by decide +kernel
theorem dX11_isSaid_49 : decode cX11_isSaid 49 = .ok (.iconst 1, 1) := by decide +kernel
theorem dX11_isSaid_50 : decode cX11_isSaid 50 = .ok (.isub, 1) := by decide +kernel
theorem dX11_isSaid_51 : decode cX11_isSaid 51 = .ok (.baload, 1) := by decide +kernel
theorem dX11_isSaid_52 : decode cX11_isSaid 52 = .ok (.ifCond .ne 7, 3) := by decide +kernel
theorem dX11_isSaid_55 : decode cX11_isSaid 55 = .ok (.iconst 1, 1) := by decide +kernel
theorem dX11_isSaid_56 : decode cX11_isSaid 56 = .ok (.goto 4, 3) := by decide +kernel
theorem dX11_isSaid_59 : decode cX11_isSaid 59 = .ok (.iconst 0, 1) := by decide +kernel
theorem dX11_isSaid_60 : decode cX11_isSaid 60 = .ok (.bastore, 1) := by decide +kernel
theorem dX11_isSaid_61 : decode cX11_isSaid 61 = .ok (.goto 145, 3) := by decide +kernel
theorem dX11_isSaid_64 : decode cX11_isSaid 64 = .ok (.aload_n 0, 1) := by decide +kernel
theorem dX11_isSaid_65 : decode cX11_isSaid 65 = .ok (.getfield 33, 3) := by decide +kernel
theorem dX11_isSaid_68 : decode cX11_isSaid 68 = .ok (.iload 4, 2) := by decide +kernel
theorem dX11_isSaid_70 : decode cX11_isSaid 70 = .ok (.iaload, 1) := by decide +kernel
theorem dX11_isSaid_71 : decode cX11_isSaid 71 = .ok (.bipush 11, 2) := by decide +kernel
theorem dX11_isSaid_73 : decode cX11_isSaid 73 = .ok (.if_icmp .eq 15, 3) := by decide +kernel
theorem dX11_isSaid_76 : decode cX11_isSaid 76 = .ok (.aload_n 0, 1) := by decide +kernel
theorem dX11_isSaid_77 : decode cX11_isSaid 77 = .ok (.getfield 33, 3) := by decide +kernel
theorem dX11_isSaid_80 : decode cX11_isSaid 80 = .ok (.iload 4, 2) := by decide +kernel
theorem dX11_isSaid_82 : decode cX11_isSaid 82 = .ok (.iaload, 1) := by decide +kernel
theorem dX11_isSaid_83 : decode cX11_isSaid 83 = .ok (.bipush 12, 2) := by decide +kernel
theorem dX11_isSaid_85 : decode cX11_isSaid 85 = .ok (.if_icmp .ne 82, 3) := by decide +kernel
theorem dX11_isSaid_88 : decode cX11_isSaid 88 = .ok (.iinc 2 (-1), 3) := by decide +kernel
theorem dX11_isSaid_91 : decode cX11_isSaid 91 = .ok (.aload_n 0, 1) := by decide +kernel
theorem dX11_isSaid_92 : decode cX11_isSaid 92 = .ok (.getfield 99, 3) := by decide +kernel
theorem dX11_isSaid_95 : decode cX11_isSaid 95 = .ok (.iload_n 2, 1) := by decide +kernel
theorem dX11_isSaid_96 : decode cX11_isSaid 96 = .ok (.iconst 1, 1) := by decide +kernel
theorem dX11_isSaid_97 : decode cX11_isSaid 97 = .ok (.isub, 1) := by decide +kernel
theorem dX11_isSaid_98 : decode cX11_isSaid 98 = .ok (.aload_n 0, 1) := by decide +kernel
theorem dX11_isSaid_99 : decode cX11_isSaid 99 = .ok (.getfield 33, 3) := by decide +kernel
theorem dX11_isSaid_102 : decode cX11_isSaid 102 = .ok (.iload 4, 2) := by decide +kernel
theorem dX11_isSaid_104 : decode cX11_isSaid 104 = .ok (.iaload, 1) := by decide +kernel
theorem dX11_isSaid_105 : decode cX11_isSaid 105 = .ok (.bipush 11, 2) := by decide +kernel
theorem dX11_isSaid_107 : decode cX11_isSaid 107 = .ok (.if_icmp .ne 31, 3) := by decide +kernel
theorem dX11_isSaid_110 : decode cX11_isSaid 110 = .ok (.aload_n 0, 1) := by decide +kernel
theorem dX11_isSaid_111 : decode cX11_isSaid 111 = .ok (.getfield 99, 3) := by decide +kernel
theorem dX11_isSaid_114 : decode cX11_isSaid 114 = .ok (.iload_n 2, 1) := by decide +kernel
theorem dX11_isSaid_115 : decode cX11_isSaid 115 = .ok (.iconst 1, 1) := by decide +kernel
theorem dX11_isSaid_116 : decode cX11_isSaid 116 = .ok (.isub, 1) := by decide +kernel
theorem dX11_isSaid_117 : decode cX11_isSaid 117 = .ok (.baload, 1) := by decide +kernel
theorem dX11_isSaid_118 : decode cX11_isSaid 118 = .ok (.ifCond .eq 16, 3) := by decide +kernel
theorem dX11_isSaid_121 : decode cX11_isSaid 121 = .ok (.aload_n 0, 1) := by decide +kernel
theorem dX11_isSaid_122 : decode cX11_isSaid 122 = .ok (.getfield 99, 3) := by decide +kernel
theorem dX11_isSaid_125 : decode cX11_isSaid 125 = .ok (.iload_n 2, 1) := by decide +kernel
theorem dX11_isSaid_126 : decode cX11_isSaid 126 = .ok (.baload, 1) := by decide +kernel
theorem dX11_isSaid_127 : decode cX11_isSaid 127 = .ok (.ifCond .eq 7, 3) := by decide +kernel
theorem dX11_isSaid_130 : decode cX11_isSaid 130 = .ok (.iconst 1, 1) := by decide +kernel
theorem dX11_isSaid_131 : decode cX11_isSaid 131 = .ok (.goto 32, 3) := by decide +kernel
theorem dX11_isSaid_134 : decode cX11_isSaid 134 = .ok (.iconst 0, 1) := by decide +kernel
theorem dX11_isSaid_135 : decode cX11_isSaid 135 = .ok (.goto 28, 3) := by decide +kernel
theorem dX11_isSaid_138 : decode cX11_isSaid 138 = .ok (.aload_n 0, 1) := by decide +kernel
theorem dX11_isSaid_139 : decode cX11_isSaid 139 = .ok (.getfield 99, 3) := by decide +kernel
theorem dX11_isSaid_142 : decode cX11_isSaid 142 = .ok (.iload_n 2, 1) := by decide +kernel
theorem dX11_isSaid_143 : decode cX11_isSaid 143 = .ok (.iconst 1, 1) := by decide +kernel
theorem dX11_isSaid_144 : decode cX11_isSaid 144 = .ok (.isub, 1) := by decide +kernel
theorem dX11_isSaid_145 : decode cX11_isSaid 145 = .ok (.baload, 1) := by decide +kernel
theorem dX11_isSaid_146 : decode cX11_isSaid 146 = .ok (.ifCond .ne 12, 3) := by decide +kernel
theorem dX11_isSaid_149 : decode cX11_isSaid 149 = .ok (.aload_n 0, 1) := by decide +kernel
theorem dX11_isSaid_150 : decode cX11_isSaid 150 = .ok (.getfield 99, 3) := by decide +kernel
theorem dX11_isSaid_153 : decode cX11_isSaid 153 = .ok (.iload_n 2, 1) := by decide +kernel
theorem dX11_isSaid_154 : decode cX11_isSaid 154 = .ok (.baload, 1) := by decide +kernel
theorem dX11_isSaid_155 : decode cX11_isSaid 155 = .ok (.ifCond .eq 7, 3) := by decide +kernel
theorem dX11_isSaid_158 : decode cX11_isSaid 158 = .ok (.iconst 1, 1) := by decide +kernel
theorem dX11_isSaid_159 : decode cX11_isSaid 159 = .ok (.goto 4, 3) := by decide +kernel
theorem dX11_isSaid_162 : decode cX11_isSaid 162 = .ok (.iconst 0, 1) := by decide +kernel
theorem dX11_isSaid_163 : decode cX11_isSaid 163 = .ok (.bastore, 1) := by decide +kernel
theorem dX11_isSaid_164 : decode cX11_isSaid 164 = .ok (.goto 42, 3) := by decide +kernel
theorem dX11_isSaid_167 : decode cX11_isSaid 167 = .ok (.aload_n 0, 1) := by decide +kernel
theorem dX11_isSaid_168 : decode cX11_isSaid 168 = .ok (.getfield 99, 3) := by decide +kernel
theorem dX11_isSaid_171 : decode cX11_isSaid 171 = .ok (.iload_n 2, 1) := by decide +kernel
theorem dX11_isSaid_172 : decode cX11_isSaid 172 = .ok (.aload_n 0, 1) := by decide +kernel
theorem dX11_isSaid_173 : decode cX11_isSaid 173 = .ok (.iload_n 1, 1) := by decide +kernel
theorem dX11_isSaid_174 : decode cX11_isSaid 174 = .ok (.aload_n 0, 1) := by decide +kernel
theorem dX11_isSaid_175 : decode cX11_isSaid 175 = .ok (.getfield 33, 3) := by decide +kernel
theorem dX11_isSaid_178 : decode cX11_isSaid 178 = .ok (.iload 4, 2) := by decide +kernel
theorem dX11_isSaid_180 : decode cX11_isSaid 180 = .ok (.iaload, 1) := by decide +kernel
theorem dX11_isSaid_181 : decode cX11_isSaid 181 = .ok (.aload_n 0, 1) := by decide +kernel
theorem dX11_isSaid_182 : decode cX11_isSaid 182 = .ok (.getfield 33, 3) := by decide +kernel
theorem dX11_isSaid_185 : decode cX11_isSaid 185 = .ok (.iload 4, 2) := by decide +kernel
theorem dX11_isSaid_187 : decode cX11_isSaid 187 = .ok (.iconst 1, 1) := by decide +kernel
theorem dX11_isSaid_188 : decode cX11_isSaid 188 = .ok (.iadd, 1) := by decide +kernel
theorem dX11_isSaid_189 : decode cX11_isSaid 189 = .ok (.iaload, 1) := by decide +kernel
theorem dX11_isSaid_190 : decode cX11_isSaid 190 = .ok (.aload_n 0, 1) := by decide +kernel
theorem dX11_isSaid_191 : decode cX11_isSaid 191 = .ok (.getfield 33, 3) := by decide +kernel
theorem dX11_isSaid_194 : decode cX11_isSaid 194 = .ok (.iload 4, 2) := by decide +kernel
theorem dX11_isSaid_196 : decode cX11_isSaid 196 = .ok (.iconst 2, 1) := by decide +kernel
theorem dX11_isSaid_197 : decode cX11_isSaid 197 = .ok (.iadd, 1) := by decide +kernel
theorem dX11_isSaid_198 : decode cX11_isSaid 198 = .ok (.iaload, 1) := by decide +kernel
theorem dX11_isSaid_199 : decode cX11_isSaid 199 = .ok (.invokevirtual 411, 3) := by decide +kernel
theorem dX11_isSaid_202 : decode cX11_isSaid 202 = .ok (.bastore, 1) := by decide +kernel
theorem dX11_isSaid_203 : decode cX11_isSaid 203 = .ok (.iinc 2 1, 3) := by decide +kernel
theorem dX11_isSaid_206 : decode cX11_isSaid 206 = .ok (.iinc 3 1, 3) := by decide +kernel
theorem dX11_isSaid_209 : decode cX11_isSaid 209 = .ok (.goto (-205), 3) := by decide +kernel
theorem dX11_isSaid_212 : decode cX11_isSaid 212 = .ok (.aload_n 0, 1) := by decide +kernel
theorem dX11_isSaid_213 : decode cX11_isSaid 213 = .ok (.getfield 99, 3) := by decide +kernel
theorem dX11_isSaid_216 : decode cX11_isSaid 216 = .ok (.iconst 0, 1) := by decide +kernel
theorem dX11_isSaid_217 : decode cX11_isSaid 217 = .ok (.baload, 1) := by decide +kernel
theorem dX11_isSaid_218 : decode cX11_isSaid 218 = .ok (.ireturn, 1) := by decide +kernel
theorem dX11_said_0 : decode cX11_said 0 = .ok (.aload_n 0, 1) := by decide +kernel
theorem dX11_said_1 : decode cX11_said 1 = .ok (.iconst 0, 1) := by decide +kernel
theorem dX11_said_2 : decode cX11_said 2 = .ok (.putfield 1, 3) := by decide +kernel
theorem dX11_said_5 : decode cX11_said 5 = .ok (.aload_n 0, 1) := by decide +kernel
theorem dX11_said_6 : decode cX11_said 6 = .ok (.getfield 33, 3) := by decide +kernel
theorem dX11_said_9 : decode cX11_said 9 = .ok (.sipush 974, 3) := by decide +kernel
theorem dX11_said_12 : decode cX11_said 12 = .ok (.iaload, 1) := by decide +kernel
theorem dX11_said_13 : decode cX11_said 13 = .ok (.ifCond .eq 8, 3) := by decide +kernel
theorem dX11_said_16 : decode cX11_said 16 = .ok (.iload_n 1, 1) := by decide +kernel
theorem dX11_said_17 : decode cX11_said 17 = .ok (.iconst (-1), 1) := by decide +kernel
theorem dX11_said_18 : decode cX11_said 18 = .ok (.if_icmp .ge 5, 3) := by decide +kernel
theorem dX11_said_21 : decode cX11_said 21 = .ok (.iconst (-1), 1) := by decide +kernel
theorem dX11_said_22 : decode cX11_said 22 = .ok (.ireturn, 1) := by decide +kernel
theorem dX11_said_23 : decode cX11_said 23 = .ok (.iconst 0, 1) := by decide +kernel
theorem dX11_said_24 : decode cX11_said 24 = .ok (.istore_n 2, 1) := by decide +kernel
theorem dX11_said_25 : decode cX11_said 25 = .ok (.iconst 0, 1) := by decide +kernel
theorem dX11_said_26 : decode cX11_said 26 = .ok (.istore_n 3, 1) := by decide +kernel
theorem dX11_said_27 : decode cX11_said 27 = .ok (.iload_n 3, 1) := by decide +kernel
theorem dX11_said_28 : decode cX11_said 28 = .ok (.aload_n 0, 1) := by decide +kernel
theorem dX11_said_29 : decode cX11_said 29 = .ok (.getfield 33, 3) := by decide +kernel
theorem dX11_said_32 : decode cX11_said 32 = .ok (.iconst 2, 1) := by decide +kernel
theorem dX11_said_33 : decode cX11_said 33 = .ok (.iaload, 1) := by decide +kernel
theorem dX11_said_34 : decode cX11_said 34 = .ok (.if_icmp .ge 30, 3) := by decide +kernel
theorem dX11_said_37 : decode cX11_said 37 = .ok (.aload_n 0, 1) := by decide +kernel
theorem dX11_said_38 : decode cX11_said 38 = .ok (.iload_n 3, 1) := by decide +kernel
theorem dX11_said_39 : decode cX11_said 39 = .ok (.invokevirtual 415, 3) := by decide +kernel
theorem dX11_said_42 : decode cX11_said 42 = .ok (.ifCond .ne 6, 3) := by decide +kernel
theorem dX11_said_45 : decode cX11_said 45 = .ok (.goto 13, 3) := by decide +kernel
theorem dX11_said_48 : decode cX11_said 48 = .ok (.iload_n 2, 1) := by decide +kernel
theorem dX11_said_49 : decode cX11_said 49 = .ok (.iload_n 1, 1) := by decide +kernel
theorem dX11_said_50 : decode cX11_said 50 = .ok (.if_icmp .ne 5, 3) := by decide +kernel
theorem dX11_said_53 : decode cX11_said 53 = .ok (.iload_n 3, 1) := by decide +kernel
theorem dX11_said_54 : decode cX11_said 54 = .ok (.ireturn, 1) := by decide +kernel
theorem dX11_said_55 : decode cX11_said 55 = .ok (.iinc 2 1, 3) := by decide +kernel
theorem dX11_said_58 : decode cX11_said 58 = .ok (.iinc 3 1, 3) := by decide +kernel
theorem dX11_said_61 : decode cX11_said 61 = .ok (.goto (-34), 3) := by decide +kernel
theorem dX11_said_64 : decode cX11_said 64 = .ok (.iload_n 1, 1) := by decide +kernel
theorem dX11_said_65 : decode cX11_said 65 = .ok (.iconst (-1), 1) := by decide +kernel
theorem dX11_said_66 : decode cX11_said 66 = .ok (.if_icmp .ne 7, 3) := by decide +kernel
theorem dX11_said_69 : decode cX11_said 69 = .ok (.iload_n 2, 1) := by decide +kernel
theorem dX11_said_70 : decode cX11_said 70 = .ok (.goto 4, 3) := by decide +kernel
theorem dX11_said_73 : decode cX11_said 73 = .ok (.iconst (-1), 1) := by decide +kernel
theorem dX11_said_74 : decode cX11_said 74 = .ok (.ireturn, 1) := by decide +kernel
theorem dX11_image_0 : decode cX11_image 0 = .ok (.aload_n 0, 1) := by decide +kernel
theorem dX11_image_1 : decode cX11_image 1 = .ok (.iconst 0, 1) := by decide +kernel
theorem dX11_image_2 : decode cX11_image 2 = .ok (.putfield 1, 3) := by decide +kernel
theorem dX11_image_5 : decode cX11_image 5 = .ok (.iload_n 1, 1) := by decide +kernel
theorem dX11_image_6 : decode cX11_image 6 = .ok (.iconst 0, 1) := by decide +kernel
theorem dX11_image_7 : decode cX11_image 7 = .ok (.iconst 1, 1) := by decide +kernel
theorem dX11_image_8 : decode cX11_image 8 = .ok (.invokestatic 194, 3) := by decide +kernel
theorem dX11_image_11 : decode cX11_image 11 = .ok (.ifCond .ne 5, 3) := by decide +kernel
theorem dX11_image_14 : decode cX11_image 14 = .ok (.iconst 0, 1) := by decide +kernel
theorem dX11_image_15 : decode cX11_image 15 = .ok (.ireturn, 1) := by decide +kernel
theorem dX11_image_16 : decode cX11_image 16 = .ok (.iconst 0, 1) := by decide +kernel
theorem dX11_image_17 : decode cX11_image 17 = .ok (.istore_n 2, 1) := by decide +kernel
theorem dX11_image_18 : decode cX11_image 18 = .ok (.iload_n 2, 1) := by decide +kernel
theorem dX11_image_19 : decode cX11_image 19 = .ok (.sipush 1155, 3) := by decide +kernel
theorem dX11_image_22 : decode cX11_image 22 = .ok (.if_icmp .ge 27, 3) := by decide +kernel
theorem dX11_image_25 : decode cX11_image 25 = .ok (.aload_n 0, 1) := by decide +kernel
theorem dX11_image_26 : decode cX11_image 26 = .ok (.getfield 103, 3) := by decide +kernel
theorem dX11_image_29 : decode cX11_image 29 = .ok (.sipush 1155, 3) := by decide +kernel
theorem dX11_image_32 : decode cX11_image 32 = .ok (.iload_n 1, 1) := by decide +kernel
theorem dX11_image_33 : decode cX11_image 33 = .ok (.imul, 1) := by decide +kernel
theorem dX11_image_34 : decode cX11_image 34 = .ok (.iload_n 2, 1) := by decide +kernel
theorem dX11_image_35 : decode cX11_image 35 = .ok (.iadd, 1) := by decide +kernel
theorem dX11_image_36 : decode cX11_image 36 = .ok (.aload_n 0, 1) := by decide +kernel
theorem dX11_image_37 : decode cX11_image 37 = .ok (.getfield 33, 3) := by decide +kernel
theorem dX11_image_40 : decode cX11_image 40 = .ok (.iload_n 2, 1) := by decide +kernel
theorem dX11_image_41 : decode cX11_image 41 = .ok (.iaload, 1) := by decide +kernel
theorem dX11_image_42 : decode cX11_image 42 = .ok (.iastore, 1) := by decide +kernel
theorem dX11_image_43 : decode cX11_image 43 = .ok (.iinc 2 1, 3) := by decide +kernel
theorem dX11_image_46 : decode cX11_image 46 = .ok (.goto (-28), 3) := by decide +kernel
theorem dX11_image_49 : decode cX11_image 49 = .ok (.iconst 0, 1) := by decide +kernel
theorem dX11_image_50 : decode cX11_image 50 = .ok (.istore_n 2, 1) := by decide +kernel
theorem dX11_image_51 : decode cX11_image 51 = .ok (.iload_n 2, 1) := by decide +kernel
theorem dX11_image_52 : decode cX11_image 52 = .ok (.bipush 9, 2) := by decide +kernel
theorem dX11_image_54 : decode cX11_image 54 = .ok (.if_icmp .ge 26, 3) := by decide +kernel
theorem dX11_image_57 : decode cX11_image 57 = .ok (.aload_n 0, 1) := by decide +kernel
theorem dX11_image_58 : decode cX11_image 58 = .ok (.getfield 106, 3) := by decide +kernel
theorem dX11_image_61 : decode cX11_image 61 = .ok (.bipush 9, 2) := by decide +kernel
theorem dX11_image_63 : decode cX11_image 63 = .ok (.iload_n 1, 1) := by decide +kernel
theorem dX11_image_64 : decode cX11_image 64 = .ok (.imul, 1) := by decide +kernel
theorem dX11_image_65 : decode cX11_image 65 = .ok (.iload_n 2, 1) := by decide +kernel
theorem dX11_image_66 : decode cX11_image 66 = .ok (.iadd, 1) := by decide +kernel
theorem dX11_image_67 : decode cX11_image 67 = .ok (.aload_n 0, 1) := by decide +kernel
theorem dX11_image_68 : decode cX11_image 68 = .ok (.getfield 43, 3) := by decide +kernel
theorem dX11_image_71 : decode cX11_image 71 = .ok (.iload_n 2, 1) := by decide +kernel
theorem dX11_image_72 : decode cX11_image 72 = .ok (.laload, 1) := by decide +kernel
theorem dX11_image_73 : decode cX11_image 73 = .ok (.lastore, 1) := by decide +kernel
theorem dX11_image_74 : decode cX11_image 74 = .ok (.iinc 2 1, 3) := by decide +kernel
theorem dX11_image_77 : decode cX11_image 77 = .ok (.goto (-26), 3) := by decide +kernel
theorem dX11_image_80 : decode cX11_image 80 = .ok (.aload_n 0, 1) := by decide +kernel
theorem dX11_image_81 : decode cX11_image 81 = .ok (.getfield 109, 3) := by decide +kernel
theorem dX11_image_84 : decode cX11_image 84 = .ok (.iload_n 1, 1) := by decide +kernel
theorem dX11_image_85 : decode cX11_image 85 = .ok (.iconst 1, 1) := by decide +kernel
theorem dX11_image_86 : decode cX11_image 86 = .ok (.bastore, 1) := by decide +kernel
theorem dX11_image_87 : decode cX11_image 87 = .ok (.iconst 1, 1) := by decide +kernel
theorem dX11_image_88 : decode cX11_image 88 = .ok (.ireturn, 1) := by decide +kernel
theorem dX11_restore_0 : decode cX11_restore 0 = .ok (.aload_n 0, 1) := by decide +kernel
theorem dX11_restore_1 : decode cX11_restore 1 = .ok (.iconst 0, 1) := by decide +kernel
theorem dX11_restore_2 : decode cX11_restore 2 = .ok (.putfield 1, 3) := by decide +kernel
theorem dX11_restore_5 : decode cX11_restore 5 = .ok (.iload_n 1, 1) := by decide +kernel
theorem dX11_restore_6 : decode cX11_restore 6 = .ok (.iconst 0, 1) := by decide +kernel
theorem dX11_restore_7 : decode cX11_restore 7 = .ok (.iconst 1, 1) := by decide +kernel
theorem dX11_restore_8 : decode cX11_restore 8 = .ok (.invokestatic 194, 3) := by decide +kernel
theorem dX11_restore_11 : decode cX11_restore 11 = .ok (.ifCond .eq 12, 3) := by decide +kernel
theorem dX11_restore_14 : decode cX11_restore 14 = .ok (.aload_n 0, 1) := by decide +kernel
theorem dX11_restore_15 : decode cX11_restore 15 = .ok (.getfield 109, 3) := by decide +kernel
theorem dX11_restore_18 : decode cX11_restore 18 = .ok (.iload_n 1, 1) := by decide +kernel
theorem dX11_restore_19 : decode cX11_restore 19 = .ok (.baload, 1) := by decide +kernel
theorem dX11_restore_20 : decode cX11_restore 20 = .ok (.ifCond .ne 5, 3) := by decide +kernel
theorem dX11_restore_23 : decode cX11_restore 23 = .ok (.iconst 0, 1) := by decide +kernel
theorem dX11_restore_24 : decode cX11_restore 24 = .ok (.ireturn, 1) := by decide +kernel
theorem dX11_restore_25 : decode cX11_restore 25 = .ok (.iconst 0, 1) := by decide +kernel
theorem dX11_restore_26 : decode cX11_restore 26 = .ok (.istore_n 2, 1) := by decide +kernel
theorem dX11_restore_27 : decode cX11_restore 27 = .ok (.iload_n 2, 1) := by decide +kernel
theorem dX11_restore_28 : decode cX11_restore 28 = .ok (.sipush 1155, 3) := by decide +kernel
theorem dX11_restore_31 : decode cX11_restore 31 = .ok (.if_icmp .ge 27, 3) := by decide +kernel
theorem dX11_restore_34 : decode cX11_restore 34 = .ok (.aload_n 0, 1) := by decide +kernel
theorem dX11_restore_35 : decode cX11_restore 35 = .ok (.getfield 33, 3) := by decide +kernel
theorem dX11_restore_38 : decode cX11_restore 38 = .ok (.iload_n 2, 1) := by decide +kernel
theorem dX11_restore_39 : decode cX11_restore 39 = .ok (.aload_n 0, 1) := by decide +kernel
theorem dX11_restore_40 : decode cX11_restore 40 = .ok (.getfield 103, 3) := by decide +kernel
theorem dX11_restore_43 : decode cX11_restore 43 = .ok (.sipush 1155, 3) := by decide +kernel
theorem dX11_restore_46 : decode cX11_restore 46 = .ok (.iload_n 1, 1) := by decide +kernel
theorem dX11_restore_47 : decode cX11_restore 47 = .ok (.imul, 1) := by decide +kernel
theorem dX11_restore_48 : decode cX11_restore 48 = .ok (.iload_n 2, 1) := by decide +kernel
theorem dX11_restore_49 : decode cX11_restore 49 = .ok (.iadd, 1) := by decide +kernel
theorem dX11_restore_50 : decode cX11_restore 50 = .ok (.iaload, 1) := by decide +kernel
theorem dX11_restore_51 : decode cX11_restore 51 = .ok (.iastore, 1) := by decide +kernel
theorem dX11_restore_52 : decode cX11_restore 52 = .ok (.iinc 2 1, 3) := by decide +kernel
theorem dX11_restore_55 : decode cX11_restore 55 = .ok (.goto (-28), 3) := by decide +kernel
theorem dX11_restore_58 : decode cX11_restore 58 = .ok (.iconst 0, 1) := by decide +kernel
theorem dX11_restore_59 : decode cX11_restore 59 = .ok (.istore_n 2, 1) := by decide +kernel
theorem dX11_restore_60 : decode cX11_restore 60 = .ok (.iload_n 2, 1) := by decide +kernel
theorem dX11_restore_61 : decode cX11_restore 61 = .ok (.bipush 9, 2) := by decide +kernel
theorem dX11_restore_63 : decode cX11_restore 63 = .ok (.if_icmp .ge 26, 3) := by decide +kernel
theorem dX11_restore_66 : decode cX11_restore 66 = .ok (.aload_n 0, 1) := by decide +kernel
theorem dX11_restore_67 : decode cX11_restore 67 = .ok (.getfield 43, 3) := by decide +kernel
theorem dX11_restore_70 : decode cX11_restore 70 = .ok (.iload_n 2, 1) := by decide +kernel
theorem dX11_restore_71 : decode cX11_restore 71 = .ok (.aload_n 0, 1) := by decide +kernel
theorem dX11_restore_72 : decode cX11_restore 72 = .ok (.getfield 106, 3) := by decide +kernel
theorem dX11_restore_75 : decode cX11_restore 75 = .ok (.bipush 9, 2) := by decide +kernel
theorem dX11_restore_77 : decode cX11_restore 77 = .ok (.iload_n 1, 1) := by decide +kernel
theorem dX11_restore_78 : decode cX11_restore 78 = .ok (.imul, 1) := by decide +kernel
theorem dX11_restore_79 : decode cX11_restore 79 = .ok (.iload_n 2, 1) := by decide +kernel
theorem dX11_restore_80 : decode cX11_restore 80 = .ok (.iadd, 1) := by decide +kernel
theorem dX11_restore_81 : decode cX11_restore 81 = .ok (.laload, 1) := by decide +kernel
theorem dX11_restore_82 : decode cX11_restore 82 = .ok (.lastore, 1) := by decide +kernel
theorem dX11_restore_83 : decode cX11_restore 83 = .ok (.iinc 2 1, 3) := by decide +kernel
theorem dX11_restore_86 : decode cX11_restore 86 = .ok (.goto (-26), 3) := by decide +kernel
theorem dX11_restore_89 : decode cX11_restore 89 = .ok (.iconst 1, 1) := by decide +kernel
theorem dX11_restore_90 : decode cX11_restore 90 = .ok (.ireturn, 1) := by decide +kernel
theorem dX11_count_0 : decode cX11_count 0 = .ok (.aload_n 0, 1) := by decide +kernel
theorem dX11_count_1 : decode cX11_count 1 = .ok (.iconst 0, 1) := by decide +kernel
theorem dX11_count_2 : decode cX11_count 2 = .ok (.putfield 1, 3) := by decide +kernel
theorem dX11_count_5 : decode cX11_count 5 = .ok (.iload_n 1, 1) := by decide +kernel
theorem dX11_count_6 : decode cX11_count 6 = .ok (.bipush 7, 2) := by decide +kernel
theorem dX11_count_8 : decode cX11_count 8 = .ok (.if_icmp .ne 14, 3) := by decide +kernel
theorem dX11_count_11 : decode cX11_count 11 = .ok (.aload_n 0, 1) := by decide +kernel
theorem dX11_count_12 : decode cX11_count 12 = .ok (.getfield 33, 3) := by decide +kernel
theorem dX11_count_15 : decode cX11_count 15 = .ok (.sipush 454, 3) := by decide +kernel
theorem dX11_count_18 : decode cX11_count 18 = .ok (.iaload, 1) := by decide +kernel
theorem dX11_count_19 : decode cX11_count 19 = .ok (.goto 36, 3) := by decide +kernel
theorem dX11_count_22 : decode cX11_count 22 = .ok (.iload_n 1, 1) := by decide +kernel
theorem dX11_count_23 : decode cX11_count 23 = .ok (.bipush 8, 2) := by decide +kernel
theorem dX11_count_25 : decode cX11_count 25 = .ok (.if_icmp .ne 10, 3) := by decide +kernel
theorem dX11_count_28 : decode cX11_count 28 = .ok (.aload_n 0, 1) := by decide +kernel
theorem dX11_count_29 : decode cX11_count 29 = .ok (.getfield 7, 3) := by decide +kernel
theorem dX11_count_32 : decode cX11_count 32 = .ok (.goto 23, 3) := by decide +kernel
theorem dX11_count_35 : decode cX11_count 35 = .ok (.iload_n 1, 1) := by decide +kernel
theorem dX11_count_36 : decode cX11_count 36 = .ok (.iconst 0, 1) := by decide +kernel
theorem dX11_count_37 : decode cX11_count 37 = .ok (.bipush 6, 2) := by decide +kernel
theorem dX11_count_39 : decode cX11_count 39 = .ok (.invokestatic 194, 3) := by decide +kernel
theorem dX11_count_42 : decode cX11_count 42 = .ok (.ifCond .eq 12, 3) := by decide +kernel
theorem dX11_count_45 : decode cX11_count 45 = .ok (.aload_n 0, 1) := by decide +kernel
theorem dX11_count_46 : decode cX11_count 46 = .ok (.getfield 33, 3) := by decide +kernel
theorem dX11_count_49 : decode cX11_count 49 = .ok (.iload_n 1, 1) := by decide +kernel
theorem dX11_count_50 : decode cX11_count 50 = .ok (.iaload, 1) := by decide +kernel
theorem dX11_count_51 : decode cX11_count 51 = .ok (.goto 4, 3) := by decide +kernel
theorem dX11_count_54 : decode cX11_count 54 = .ok (.iconst (-1), 1) := by decide +kernel
theorem dX11_count_55 : decode cX11_count 55 = .ok (.ireturn, 1) := by decide +kernel
