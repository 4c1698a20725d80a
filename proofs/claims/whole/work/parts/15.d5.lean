theorem dX3_forget_0 : decode cX3_forget 0 = .ok (.aload_n 0, 1) := by decide +kernel
theorem dX3_forget_1 : decode cX3_forget 1 = .ok (.iconst 0, 1) := by decide +kernel
theorem dX3_forget_2 : decode cX3_forget 2 = .ok (.putfield 25, 3) := by decide +kernel
theorem dX3_forget_5 : decode cX3_forget 5 = .ok (.aload_n 0, 1) := by decide +kernel
theorem dX3_forget_6 : decode cX3_forget 6 = .ok (.iconst 0, 1) := by decide +kernel
theorem dX3_forget_7 : decode cX3_forget 7 = .ok (.putfield 29, 3) := by decide +kernel
theorem dX3_forget_10 : decode cX3_forget 10 = .ok (.return_, 1) := by decide +kernel
theorem dX3_takeFrom_0 : decode cX3_takeFrom 0 = .ok (.aload_n 0, 1) := by decide +kernel
theorem dX3_takeFrom_1 : decode cX3_takeFrom 1 = .ok (.aload_n 1, 1) := by decide +kernel
theorem dX3_takeFrom_2 : decode cX3_takeFrom 2 = .ok (.getfield 25, 3) := by decide +kernel
theorem dX3_takeFrom_5 : decode cX3_takeFrom 5 = .ok (.putfield 25, 3) := by decide +kernel
theorem dX3_takeFrom_8 : decode cX3_takeFrom 8 = .ok (.aload_n 0, 1) := by decide +kernel
theorem dX3_takeFrom_9 : decode cX3_takeFrom 9 = .ok (.aload_n 1, 1) := by decide +kernel
theorem dX3_takeFrom_10 : decode cX3_takeFrom 10 = .ok (.getfield 29, 3) := by decide +kernel
theorem dX3_takeFrom_13 : decode cX3_takeFrom 13 = .ok (.putfield 29, 3) := by decide +kernel
theorem dX3_takeFrom_16 : decode cX3_takeFrom 16 = .ok (.aload_n 1, 1) := by decide +kernel
theorem dX3_takeFrom_17 : decode cX3_takeFrom 17 = .ok (.getfield 11, 3) := by decide +kernel
theorem dX3_takeFrom_20 : decode cX3_takeFrom 20 = .ok (.aload_n 0, 1) := by decide +kernel
theorem dX3_takeFrom_21 : decode cX3_takeFrom 21 = .ok (.getfield 11, 3) := by decide +kernel
theorem dX3_takeFrom_24 : decode cX3_takeFrom 24 = .ok (.invokestatic 32, 3) := by decide +kernel
theorem dX3_takeFrom_27 : decode cX3_takeFrom 27 = .ok (.aload_n 1, 1) := by decide +kernel
theorem dX3_takeFrom_28 : decode cX3_takeFrom 28 = .ok (.getfield 15, 3) := by decide +kernel
theorem dX3_takeFrom_31 : decode cX3_takeFrom 31 = .ok (.aload_n 0, 1) := by decide +kernel
theorem dX3_takeFrom_32 : decode cX3_takeFrom 32 = .ok (.getfield 15, 3) := by decide +kernel
theorem dX3_takeFrom_35 : decode cX3_takeFrom 35 = .ok (.invokestatic 32, 3) := by decide +kernel
theorem dX3_takeFrom_38 : decode cX3_takeFrom 38 = .ok (.aload_n 1, 1) := by decide +kernel
theorem dX3_takeFrom_39 : decode cX3_takeFrom 39 = .ok (.getfield 18, 3) := by decide +kernel
theorem dX3_takeFrom_42 : decode cX3_takeFrom 42 = .ok (.aload_n 0, 1) := by decide +kernel
theorem dX3_takeFrom_43 : decode cX3_takeFrom 43 = .ok (.getfield 18, 3) := by decide +kernel
theorem dX3_takeFrom_46 : decode cX3_takeFrom 46 = .ok (.invokestatic 32, 3) := by decide +kernel
theorem dX3_takeFrom_49 : decode cX3_takeFrom 49 = .ok (.return_, 1) := by decide +kernel
theorem dX3_isTold_0 : decode cX3_isTold 0 = .ok (.aload_n 0, 1) := by decide +kernel
theorem dX3_isTold_1 : decode cX3_isTold 1 = .ok (.getfield 29, 3) := by decide +kernel
theorem dX3_isTold_4 : decode cX3_isTold 4 = .ok (.ifCond .le 7, 3) := by decide +kernel
theorem dX3_isTold_7 : decode cX3_isTold 7 = .ok (.iconst 1, 1) := by decide +kernel
theorem dX3_isTold_8 : decode cX3_isTold 8 = .ok (.goto 4, 3) := by decide +kernel
theorem dX3_isTold_11 : decode cX3_isTold 11 = .ok (.iconst 0, 1) := by decide +kernel
theorem dX3_isTold_12 : decode cX3_isTold 12 = .ok (.ireturn, 1) := by decide +kernel
theorem dX3_addStep_0 : decode cX3_addStep 0 = .ok (.aload_n 0, 1) := by decide +kernel
theorem dX3_addStep_1 : decode cX3_addStep 1 = .ok (.getfield 29, 3) := by decide +kernel
theorem dX3_addStep_4 : decode cX3_addStep 4 = .ok (.bipush 40, 2) := by decide +kernel
theorem dX3_addStep_6 : decode cX3_addStep 6 = .ok (.if_icmp .ge 43, 3) := by decide +kernel
theorem dX3_addStep_9 : decode cX3_addStep 9 = .ok (.aload_n 0, 1) := by decide +kernel
theorem dX3_addStep_10 : decode cX3_addStep 10 = .ok (.getfield 11, 3) := by decide +kernel
theorem dX3_addStep_13 : decode cX3_addStep 13 = .ok (.aload_n 0, 1) := by decide +kernel
theorem dX3_addStep_14 : decode cX3_addStep 14 = .ok (.getfield 29, 3) := by decide +kernel
theorem dX3_addStep_17 : decode cX3_addStep 17 = .ok (.iload_n 1, 1) := by decide +kernel
theorem dX3_addStep_18 : decode cX3_addStep 18 = .ok (.iastore, 1) := by decide +kernel
theorem dX3_addStep_19 : decode cX3_addStep 19 = .ok (.aload_n 0, 1) := by decide +kernel
theorem dX3_addStep_20 : decode cX3_addStep 20 = .ok (.getfield 15, 3) := by decide +kernel
theorem dX3_addStep_23 : decode cX3_addStep 23 = .ok (.aload_n 0, 1) := by decide +kernel
theorem dX3_addStep_24 : decode cX3_addStep 24 = .ok (.getfield 29, 3) := by decide +kernel
theorem dX3_addStep_27 : decode cX3_addStep 27 = .ok (.iload_n 2, 1) := by decide +kernel
theorem dX3_addStep_28 : decode cX3_addStep 28 = .ok (.iastore, 1) := by decide +kernel
theorem dX3_addStep_29 : decode cX3_addStep 29 = .ok (.aload_n 0, 1) := by decide +kernel
theorem dX3_addStep_30 : decode cX3_addStep 30 = .ok (.getfield 18, 3) := by decide +kernel
theorem dX3_addStep_33 : decode cX3_addStep 33 = .ok (.aload_n 0, 1) := by decide +kernel
theorem dX3_addStep_34 : decode cX3_addStep 34 = .ok (.getfield 29, 3) := by decide +kernel
theorem dX3_addStep_37 : decode cX3_addStep 37 = .ok (.iload_n 3, 1) := by decide +kernel
theorem dX3_addStep_38 : decode cX3_addStep 38 = .ok (.iastore, 1) := by decide +kernel
theorem dX3_addStep_39 : decode cX3_addStep 39 = .ok (.aload_n 0, 1) := by decide +kernel
theorem dX3_addStep_40 : decode cX3_addStep 40 = .ok (.dup, 1) := by decide +kernel
theorem dX3_addStep_41 : decode cX3_addStep 41 = .ok (.getfield 29, 3) := by decide +kernel
theorem dX3_addStep_44 : decode cX3_addStep 44 = .ok (.iconst 1, 1) := by decide +kernel
theorem dX3_addStep_45 : decode cX3_addStep 45 = .ok (.iadd, 1) := by decide +kernel
theorem dX3_addStep_46 : decode cX3_addStep 46 = .ok (.putfield 29, 3) := by decide +kernel
theorem dX3_addStep_49 : decode cX3_addStep 49 = .ok (.iconst 1, 1) := by decide +kernel
theorem dX3_addStep_50 : decode cX3_addStep 50 = .ok (.ireturn, 1) := by decide +kernel
theorem dX3_readJoins_0 : decode cX3_readJoins 0 = .ok (.aload_n 1, 1) := by decide +kernel
theorem dX3_readJoins_1 : decode cX3_readJoins 1 = .ok (.invokevirtual 89, 3) := by decide +kernel
theorem dX3_readJoins_4 : decode cX3_readJoins 4 = .ok (.ifCond .ne 9, 3) := by decide +kernel
theorem dX3_readJoins_7 : decode cX3_readJoins 7 = .ok (.aload_n 1, 1) := by decide +kernel
theorem dX3_readJoins_8 : decode cX3_readJoins 8 = .ok (.iconst 1, 1) := by decide +kernel
theorem dX3_readJoins_9 : decode cX3_readJoins 9 = .ok (.invokevirtual 52, 3) := by decide +kernel
theorem dX3_readJoins_12 : decode cX3_readJoins 12 = .ok (.ireturn, 1) := by decide +kernel
theorem dX3_readJoins_13 : decode cX3_readJoins 13 = .ok (.aload_n 2, 1) := by decide +kernel
theorem dX3_readJoins_14 : decode cX3_readJoins 14 = .ok (.aload_n 1, 1) := by decide +kernel
theorem dX3_readJoins_15 : decode cX3_readJoins 15 = .ok (.getfield 93, 3) := by decide +kernel
theorem dX3_readJoins_18 : decode cX3_readJoins 18 = .ok (.invokevirtual 97, 3) := by decide +kernel
theorem dX3_readJoins_21 : decode cX3_readJoins 21 = .ok (.istore_n 3, 1) := by decide +kernel
theorem dX3_readJoins_22 : decode cX3_readJoins 22 = .ok (.iload_n 3, 1) := by decide +kernel
theorem dX3_readJoins_23 : decode cX3_readJoins 23 = .ok (.iconst (-1), 1) := by decide +kernel
theorem dX3_readJoins_24 : decode cX3_readJoins 24 = .ok (.if_icmp .ne 9, 3) := by decide +kernel
theorem dX3_readJoins_27 : decode cX3_readJoins 27 = .ok (.aload_n 1, 1) := by decide +kernel
theorem dX3_readJoins_28 : decode cX3_readJoins 28 = .ok (.iconst 3, 1) := by decide +kernel
theorem dX3_readJoins_29 : decode cX3_readJoins 29 = .ok (.invokevirtual 52, 3) := by decide +kernel
theorem dX3_readJoins_32 : decode cX3_readJoins 32 = .ok (.ireturn, 1) := by decide +kernel
theorem dX3_readJoins_33 : decode cX3_readJoins 33 = .ok (.aload_n 1, 1) := by decide +kernel
theorem dX3_readJoins_34 : decode cX3_readJoins 34 = .ok (.invokevirtual 62, 3) := by decide +kernel
theorem dX3_readJoins_37 : decode cX3_readJoins 37 = .ok (.aload_n 0, 1) := by decide +kernel
theorem dX3_readJoins_38 : decode cX3_readJoins 38 = .ok (.bipush 13, 2) := by decide +kernel
theorem dX3_readJoins_40 : decode cX3_readJoins 40 = .ok (.iconst 0, 1) := by decide +kernel
theorem dX3_readJoins_41 : decode cX3_readJoins 41 = .ok (.iload_n 3, 1) := by decide +kernel
theorem dX3_readJoins_42 : decode cX3_readJoins 42 = .ok (.invokevirtual 65, 3) := by decide +kernel
theorem dX3_readJoins_45 : decode cX3_readJoins 45 = .ok (.ireturn, 1) := by decide +kernel
theorem dX3_readMeasure_0 : decode cX3_readMeasure 0 = .ok (.aload_n 1, 1) := by decide +kernel
theorem dX3_readMeasure_1 : decode cX3_readMeasure 1 = .ok (.bipush 60, 2) := by decide +kernel
theorem dX3_readMeasure_3 : decode cX3_readMeasure 3 = .ok (.invokevirtual 72, 3) := by decide +kernel
theorem dX3_readMeasure_6 : decode cX3_readMeasure 6 = .ok (.ifCond .ne 27, 3) := by decide +kernel
theorem dX3_readMeasure_9 : decode cX3_readMeasure 9 = .ok (.aload_n 1, 1) := by decide +kernel
theorem dX3_readMeasure_10 : decode cX3_readMeasure 10 = .ok (.bipush 61, 2) := by decide +kernel
theorem dX3_readMeasure_12 : decode cX3_readMeasure 12 = .ok (.invokevirtual 72, 3) := by decide +kernel
theorem dX3_readMeasure_15 : decode cX3_readMeasure 15 = .ok (.ifCond .ne 18, 3) := by decide +kernel
theorem dX3_readMeasure_18 : decode cX3_readMeasure 18 = .ok (.aload_n 1, 1) := by decide +kernel
theorem dX3_readMeasure_19 : decode cX3_readMeasure 19 = .ok (.bipush 62, 2) := by decide +kernel
theorem dX3_readMeasure_21 : decode cX3_readMeasure 21 = .ok (.invokevirtual 72, 3) := by decide +kernel
theorem dX3_readMeasure_24 : decode cX3_readMeasure 24 = .ok (.ifCond .ne 9, 3) := by decide +kernel
theorem dX3_readMeasure_27 : decode cX3_readMeasure 27 = .ok (.aload_n 1, 1) := by decide +kernel
theorem dX3_readMeasure_28 : decode cX3_readMeasure 28 = .ok (.iconst 1, 1) := by decide +kernel
theorem dX3_readMeasure_29 : decode cX3_readMeasure 29 = .ok (.invokevirtual 52, 3) := by decide +kernel
theorem dX3_readMeasure_32 : decode cX3_readMeasure 32 = .ok (.ireturn, 1) := by decide +kernel
theorem dX3_readMeasure_33 : decode cX3_readMeasure 33 = .ok (.aload_n 1, 1) := by decide +kernel
theorem dX3_readMeasure_34 : decode cX3_readMeasure 34 = .ok (.getfield 103, 3) := by decide +kernel
theorem dX3_readMeasure_37 : decode cX3_readMeasure 37 = .ok (.istore_n 3, 1) := by decide +kernel
theorem dX3_readMeasure_38 : decode cX3_readMeasure 38 = .ok (.aload_n 1, 1) := by decide +kernel
theorem dX3_readMeasure_39 : decode cX3_readMeasure 39 = .ok (.invokevirtual 62, 3) := by decide +kernel
theorem dX3_readMeasure_42 : decode cX3_readMeasure 42 = .ok (.aload_n 1, 1) := by decide +kernel
theorem dX3_readMeasure_43 : decode cX3_readMeasure 43 = .ok (.getfield 49, 3) := by decide +kernel
theorem dX3_readMeasure_46 : decode cX3_readMeasure 46 = .ok (.iconst 2, 1) := by decide +kernel
theorem dX3_readMeasure_47 : decode cX3_readMeasure 47 = .ok (.if_icmp .eq 9, 3) := by decide +kernel
theorem dX3_readMeasure_50 : decode cX3_readMeasure 50 = .ok (.aload_n 1, 1) := by decide +kernel
theorem dX3_readMeasure_51 : decode cX3_readMeasure 51 = .ok (.iconst 1, 1) := by decide +kernel
theorem dX3_readMeasure_52 : decode cX3_readMeasure 52 = .ok (.invokevirtual 52, 3) := by decide +kernel
theorem dX3_readMeasure_55 : decode cX3_readMeasure 55 = .ok (.ireturn, 1) := by decide +kernel
theorem dX3_readMeasure_56 : decode cX3_readMeasure 56 = .ok (.aload_n 0, 1) := by decide +kernel
theorem dX3_readMeasure_57 : decode cX3_readMeasure 57 = .ok (.iload_n 2, 1) := by decide +kernel
theorem dX3_readMeasure_58 : decode cX3_readMeasure 58 = .ok (.iload_n 3, 1) := by decide +kernel
theorem dX3_readMeasure_59 : decode cX3_readMeasure 59 = .ok (.aload_n 1, 1) := by decide +kernel
theorem dX3_readMeasure_60 : decode cX3_readMeasure 60 = .ok (.getfield 105, 3) := by decide +kernel
theorem dX3_readMeasure_63 : decode cX3_readMeasure 63 = .ok (.invokevirtual 65, 3) := by decide +kernel
theorem dX3_readMeasure_66 : decode cX3_readMeasure 66 = .ok (.pop, 1) := by decide +kernel
theorem dX3_readMeasure_67 : decode cX3_readMeasure 67 = .ok (.aload_n 1, 1) := by decide +kernel
theorem dX3_readMeasure_68 : decode cX3_readMeasure 68 = .ok (.invokevirtual 62, 3) := by decide +kernel
theorem dX3_readMeasure_71 : decode cX3_readMeasure 71 = .ok (.iconst 1, 1) := by decide +kernel
theorem dX3_readMeasure_72 : decode cX3_readMeasure 72 = .ok (.ireturn, 1) := by decide +kernel
theorem dX3_holdsLeaf_0 : decode cX3_holdsLeaf 0 = .ok (.aload_n 0, 1) := by decide +kernel
theorem dX3_holdsLeaf_1 : decode cX3_holdsLeaf 1 = .ok (.getfield 11, 3) := by decide +kernel
theorem dX3_holdsLeaf_4 : decode cX3_holdsLeaf 4 = .ok (.iload_n 1, 1) := by decide +kernel
theorem dX3_holdsLeaf_5 : decode cX3_holdsLeaf 5 = .ok (.iaload, 1) := by decide +kernel
theorem dX3_holdsLeaf_6 : decode cX3_holdsLeaf 6 = .ok (.bipush 12, 2) := by decide +kernel
theorem dX3_holdsLeaf_8 : decode cX3_holdsLeaf 8 = .ok (.if_icmp .ne 22, 3) := by decide +kernel
theorem dX3_holdsLeaf_11 : decode cX3_holdsLeaf 11 = .ok (.aload_n 3, 1) := by decide +kernel
theorem dX3_holdsLeaf_12 : decode cX3_holdsLeaf 12 = .ok (.getfield 111, 3) := by decide +kernel
theorem dX3_holdsLeaf_15 : decode cX3_holdsLeaf 15 = .ok (.getfield 117, 3) := by decide +kernel
theorem dX3_holdsLeaf_18 : decode cX3_holdsLeaf 18 = .ok (.iload_n 2, 1) := by decide +kernel
theorem dX3_holdsLeaf_19 : decode cX3_holdsLeaf 19 = .ok (.iaload, 1) := by decide +kernel
theorem dX3_holdsLeaf_20 : decode cX3_holdsLeaf 20 = .ok (.iconst 1, 1) := by decide +kernel
theorem dX3_holdsLeaf_21 : decode cX3_holdsLeaf 21 = .ok (.if_icmp .ne 7, 3) := by decide +kernel
theorem dX3_holdsLeaf_24 : decode cX3_holdsLeaf 24 = .ok (.iconst 1, 1) := by decide +kernel
theorem dX3_holdsLeaf_25 : decode cX3_holdsLeaf 25 = .ok (.goto 4, 3) := by decide +kernel
theorem dX3_holdsLeaf_28 : decode cX3_holdsLeaf 28 = .ok (.iconst 0, 1) := by decide +kernel
theorem dX3_holdsLeaf_29 : decode cX3_holdsLeaf 29 = .ok (.ireturn, 1) := by decide +kernel
theorem dX3_holdsLeaf_30 : decode cX3_holdsLeaf 30 = .ok (.aload_n 0, 1) := by decide +kernel
theorem dX3_holdsLeaf_31 : decode cX3_holdsLeaf 31 = .ok (.getfield 11, 3) := by decide +kernel
theorem dX3_holdsLeaf_34 : decode cX3_holdsLeaf 34 = .ok (.iload_n 1, 1) := by decide +kernel
theorem dX3_holdsLeaf_35 : decode cX3_holdsLeaf 35 = .ok (.iaload, 1) := by decide +kernel
theorem dX3_holdsLeaf_36 : decode cX3_holdsLeaf 36 = .ok (.bipush 13, 2) := by decide +kernel
theorem dX3_holdsLeaf_38 : decode cX3_holdsLeaf 38 = .ok (.if_icmp .ne 15, 3) := by decide +kernel
theorem dX3_holdsLeaf_41 : decode cX3_holdsLeaf 41 = .ok (.aload_n 3, 1) := by decide +kernel
theorem dX3_holdsLeaf_42 : decode cX3_holdsLeaf 42 = .ok (.iload_n 2, 1) := by decide +kernel
theorem dX3_holdsLeaf_43 : decode cX3_holdsLeaf 43 = .ok (.aload_n 0, 1) := by decide +kernel
theorem dX3_holdsLeaf_44 : decode cX3_holdsLeaf 44 = .ok (.getfield 18, 3) := by decide +kernel
theorem dX3_holdsLeaf_47 : decode cX3_holdsLeaf 47 = .ok (.iload_n 1, 1) := by decide +kernel
theorem dX3_holdsLeaf_48 : decode cX3_holdsLeaf 48 = .ok (.iaload, 1) := by decide +kernel
theorem dX3_holdsLeaf_49 : decode cX3_holdsLeaf 49 = .ok (.invokevirtual 122, 3) := by decide +kernel
theorem dX3_holdsLeaf_52 : decode cX3_holdsLeaf 52 = .ok (.ireturn, 1) := by decide +kernel
theorem dX3_holdsLeaf_53 : decode cX3_holdsLeaf 53 = .ok (.aload_n 3, 1) := by decide +kernel
theorem dX3_holdsLeaf_54 : decode cX3_holdsLeaf 54 = .ok (.iload_n 2, 1) := by decide +kernel
theorem dX3_holdsLeaf_55 : decode cX3_holdsLeaf 55 = .ok (.aload_n 0, 1) := by decide +kernel
theorem dX3_holdsLeaf_56 : decode cX3_holdsLeaf 56 = .ok (.getfield 11, 3) := by decide +kernel
theorem dX3_holdsLeaf_59 : decode cX3_holdsLeaf 59 = .ok (.iload_n 1, 1) := by decide +kernel
theorem dX3_holdsLeaf_60 : decode cX3_holdsLeaf 60 = .ok (.iaload, 1) := by decide +kernel
theorem dX3_holdsLeaf_61 : decode cX3_holdsLeaf 61 = .ok (.invokevirtual 126, 3) := by decide +kernel
theorem dX3_holdsLeaf_64 : decode cX3_holdsLeaf 64 = .ok (.istore 4, 2) := by decide +kernel
theorem dX3_holdsLeaf_66 : decode cX3_holdsLeaf 66 = .ok (.aload_n 0, 1) := by decide +kernel
theorem dX3_holdsLeaf_67 : decode cX3_holdsLeaf 67 = .ok (.getfield 15, 3) := by decide +kernel
theorem dX3_holdsLeaf_70 : decode cX3_holdsLeaf 70 = .ok (.iload_n 1, 1) := by decide +kernel
theorem dX3_holdsLeaf_71 : decode cX3_holdsLeaf 71 = .ok (.iaload, 1) := by decide +kernel
theorem dX3_holdsLeaf_72 : decode cX3_holdsLeaf 72 = .ok (.bipush 60, 2) := by decide +kernel
theorem dX3_holdsLeaf_74 : decode cX3_holdsLeaf 74 = .ok (.if_icmp .ne 22, 3) := by decide +kernel
theorem dX3_holdsLeaf_77 : decode cX3_holdsLeaf 77 = .ok (.iload 4, 2) := by decide +kernel
theorem dX3_holdsLeaf_79 : decode cX3_holdsLeaf 79 = .ok (.aload_n 0, 1) := by decide +kernel
theorem dX3_holdsLeaf_80 : decode cX3_holdsLeaf 80 = .ok (.getfield 18, 3) := by decide +kernel
theorem dX3_holdsLeaf_83 : decode cX3_holdsLeaf 83 = .ok (.iload_n 1, 1) := by decide +kernel
theorem dX3_holdsLeaf_84 : decode cX3_holdsLeaf 84 = .ok (.iaload, 1) := by decide +kernel
theorem dX3_holdsLeaf_85 : decode cX3_holdsLeaf 85 = .ok (.if_icmp .ge 7, 3) := by decide +kernel
theorem dX3_holdsLeaf_88 : decode cX3_holdsLeaf 88 = .ok (.iconst 1, 1) := by decide +kernel
theorem dX3_holdsLeaf_89 : decode cX3_holdsLeaf 89 = .ok (.goto 53, 3) := by decide +kernel
theorem dX3_holdsLeaf_92 : decode cX3_holdsLeaf 92 = .ok (.iconst 0, 1) := by decide +kernel
theorem dX3_holdsLeaf_93 : decode cX3_holdsLeaf 93 = .ok (.goto 49, 3) := by decide +kernel
theorem dX3_holdsLeaf_96 : decode cX3_holdsLeaf 96 = .ok (.aload_n 0, 1) := by decide +kernel
theorem dX3_holdsLeaf_97 : decode cX3_holdsLeaf 97 = .ok (.getfield 15, 3) := by decide +kernel
theorem dX3_holdsLeaf_100 : decode cX3_holdsLeaf 100 = .ok (.iload_n 1, 1) := by decide +kernel
theorem dX3_holdsLeaf_101 : decode cX3_holdsLeaf 101 = .ok (.iaload, 1) := by decide +kernel
theorem dX3_holdsLeaf_102 : decode cX3_holdsLeaf 102 = .ok (.bipush 62, 2) := by decide +kernel
theorem dX3_holdsLeaf_104 : decode cX3_holdsLeaf 104 = .ok (.if_icmp .ne 22, 3) := by decide +kernel
theorem dX3_holdsLeaf_107 : decode cX3_holdsLeaf 107 = .ok (.iload 4, 2) := by decide +kernel
theorem dX3_holdsLeaf_109 : decode cX3_holdsLeaf 109 = .ok (.aload_n 0, 1) := by decide +kernel
theorem dX3_holdsLeaf_110 : decode cX3_holdsLeaf 110 = .ok (.getfield 18, 3) := by decide +kernel
theorem dX3_holdsLeaf_113 : decode cX3_holdsLeaf 113 = .ok (.iload_n 1, 1) := by decide +kernel
theorem dX3_holdsLeaf_114 : decode cX3_holdsLeaf 114 = .ok (.iaload, 1) := by decide +kernel
theorem dX3_holdsLeaf_115 : decode cX3_holdsLeaf 115 = .ok (.if_icmp .le 7, 3) := by decide +kernel
theorem dX3_holdsLeaf_118 : decode cX3_holdsLeaf 118 = .ok (.iconst 1, 1) := by decide +kernel
theorem dX3_holdsLeaf_119 : decode cX3_holdsLeaf 119 = .ok (.goto 23, 3) := by decide +kernel
theorem dX3_holdsLeaf_122 : decode cX3_holdsLeaf 122 = .ok (.iconst 0, 1) := by decide +kernel
theorem dX3_holdsLeaf_123 : decode cX3_holdsLeaf 123 = .ok (.goto 19, 3) := by decide +kernel
theorem dX3_holdsLeaf_126 : decode cX3_holdsLeaf 126 = .ok (.iload 4, 2) := by decide +kernel
theorem dX3_holdsLeaf_128 : decode cX3_holdsLeaf 128 = .ok (.aload_n 0, 1) := by decide +kernel
theorem dX3_holdsLeaf_129 : decode cX3_holdsLeaf 129 = .ok (.getfield 18, 3) := by decide +kernel
theorem dX3_holdsLeaf_132 : decode cX3_holdsLeaf 132 = .ok (.iload_n 1, 1) := by decide +kernel
theorem dX3_holdsLeaf_133 : decode cX3_holdsLeaf 133 = .ok (.iaload, 1) := by decide +kernel
theorem dX3_holdsLeaf_134 : decode cX3_holdsLeaf 134 = .ok (.if_icmp .ne 7, 3) := by decide +kernel
theorem dX3_holdsLeaf_137 : decode cX3_holdsLeaf 137 = .ok (.iconst 1, 1) := by decide +kernel
theorem dX3_holdsLeaf_138 : decode cX3_holdsLeaf 138 = .ok (.goto 4, 3) := by decide +kernel
theorem dX3_holdsLeaf_141 : decode cX3_holdsLeaf 141 = .ok (.iconst 0, 1) := by decide +kernel
theorem dX3_holdsLeaf_142 : decode cX3_holdsLeaf 142 = .ok (.ireturn, 1) := by decide +kernel
theorem dX3_holds_0 : decode cX3_holds 0 = .ok (.iconst 0, 1) := by decide +kernel
theorem dX3_holds_1 : decode cX3_holds 1 = .ok (.istore_n 3, 1) := by decide +kernel
theorem dX3_holds_2 : decode cX3_holds 2 = .ok (.iconst 0, 1) := by decide +kernel
theorem dX3_holds_3 : decode cX3_holds 3 = .ok (.istore 4, 2) := by decide +kernel
theorem dX3_holds_5 : decode cX3_holds 5 = .ok (.iload 4, 2) := by decide +kernel
theorem dX3_holds_7 : decode cX3_holds 7 = .ok (.aload_n 0, 1) := by decide +kernel
theorem dX3_holds_8 : decode cX3_holds 8 = .ok (.getfield 29, 3) := by decide +kernel
theorem dX3_holds_11 : decode cX3_holds 11 = .ok (.if_icmp .ge 183, 3) := by decide +kernel
theorem dX3_holds_14 : decode cX3_holds 14 = .ok (.aload_n 0, 1) := by decide +kernel
theorem dX3_holds_15 : decode cX3_holds 15 = .ok (.getfield 11, 3) := by decide +kernel
theorem dX3_holds_18 : decode cX3_holds 18 = .ok (.iload 4, 2) := by decide +kernel
theorem dX3_holds_20 : decode cX3_holds 20 = .ok (.iaload, 1) := by decide +kernel
theorem dX3_holds_21 : decode cX3_holds 21 = .ok (.bipush 11, 2) := by decide +kernel
theorem dX3_holds_23 : decode cX3_holds 23 = .ok (.if_icmp .ne 34, 3) := by decide +kernel
theorem dX3_holds_26 : decode cX3_holds 26 = .ok (.iload_n 3, 1) := by decide +kernel
theorem dX3_holds_27 : decode cX3_holds 27 = .ok (.ifCond .le 161, 3) := by decide +kernel
theorem dX3_holds_30 : decode cX3_holds 30 = .ok (.aload_n 0, 1) := by decide +kernel
theorem dX3_holds_31 : decode cX3_holds 31 = .ok (.getfield 21, 3) := by decide +kernel
theorem dX3_holds_34 : decode cX3_holds 34 = .ok (.iload_n 3, 1) := by decide +kernel
theorem dX3_holds_35 : decode cX3_holds 35 = .ok (.iconst 1, 1) := by decide +kernel
theorem dX3_holds_36 : decode cX3_holds 36 = .ok (.isub, 1) := by decide +kernel
theorem dX3_holds_37 : decode cX3_holds 37 = .ok (.aload_n 0, 1) := by decide +kernel
theorem dX3_holds_38 : decode cX3_holds 38 = .ok (.getfield 21, 3) := by decide +kernel
theorem dX3_holds_41 : decode cX3_holds 41 = .ok (.iload_n 3, 1) := by decide +kernel
theorem dX3_holds_42 : decode cX3_holds 42 = .ok (.iconst 1, 1) := by decide +kernel
theorem dX3_holds_43 : decode cX3_holds 43 = .ok (.isub, 1) := by decide +kernel
theorem dX3_holds_44 : decode cX3_holds 44 = .ok (.baload, 1) := by decide +kernel
theorem dX3_holds_45 : decode cX3_holds 45 = .ok (.ifCond .ne 7, 3) := by decide +kernel
theorem dX3_holds_48 : decode cX3_holds 48 = .ok (.iconst 1, 1) := by decide +kernel
theorem dX3_holds_49 : decode cX3_holds 49 = .ok (.goto 4, 3) := by decide +kernel
theorem dX3_holds_52 : decode cX3_holds 52 = .ok (.iconst 0, 1) := by decide +kernel
theorem dX3_holds_53 : decode cX3_holds 53 = .ok (.bastore, 1) := by decide +kernel
theorem dX3_holds_54 : decode cX3_holds 54 = .ok (.goto 134, 3) := by decide +kernel
theorem dX3_holds_57 : decode cX3_holds 57 = .ok (.aload_n 0, 1) := by decide +kernel
theorem dX3_holds_58 : decode cX3_holds 58 = .ok (.getfield 11, 3) := by decide +kernel
theorem dX3_holds_61 : decode cX3_holds 61 = .ok (.iload 4, 2) := by decide +kernel
theorem dX3_holds_63 : decode cX3_holds 63 = .ok (.iaload, 1) := by decide +kernel
theorem dX3_holds_64 : decode cX3_holds 64 = .ok (.bipush 10, 2) := by decide +kernel
theorem dX3_holds_66 : decode cX3_holds 66 = .ok (.if_icmp .eq 15, 3) := by decide +kernel
theorem dX3_holds_69 : decode cX3_holds 69 = .ok (.aload_n 0, 1) := by decide +kernel
theorem dX3_holds_70 : decode cX3_holds 70 = .ok (.getfield 11, 3) := by decide +kernel
theorem dX3_holds_73 : decode cX3_holds 73 = .ok (.iload 4, 2) := by decide +kernel
theorem dX3_holds_75 : decode cX3_holds 75 = .ok (.iaload, 1) := by decide +kernel
theorem dX3_holds_76 : decode cX3_holds 76 = .ok (.bipush 9, 2) := by decide +kernel
theorem dX3_holds_78 : decode cX3_holds 78 = .ok (.if_icmp .ne 87, 3) := by decide +kernel
theorem dX3_holds_81 : decode cX3_holds 81 = .ok (.iload_n 3, 1) := by decide +kernel
theorem dX3_holds_82 : decode cX3_holds 82 = .ok (.iconst 1, 1) := by decide +kernel
theorem dX3_holds_83 : decode cX3_holds 83 = .ok (.if_icmp .le 105, 3) := by decide +kernel
theorem dX3_holds_86 : decode cX3_holds 86 = .ok (.iinc 3 (-1), 3) := by decide +kernel
theorem dX3_holds_89 : decode cX3_holds 89 = .ok (.aload_n 0, 1) := by decide +kernel
theorem dX3_holds_90 : decode cX3_holds 90 = .ok (.getfield 21, 3) := by decide +kernel
theorem dX3_holds_93 : decode cX3_holds 93 = .ok (.iload_n 3, 1) := by decide +kernel
theorem dX3_holds_94 : decode cX3_holds 94 = .ok (.iconst 1, 1) := by decide +kernel
theorem dX3_holds_95 : decode cX3_holds 95 = .ok (.isub, 1) := by decide +kernel
theorem dX3_holds_96 : decode cX3_holds 96 = .ok (.aload_n 0, 1) := by decide +kernel
theorem dX3_holds_97 : decode cX3_holds 97 = .ok (.getfield 11, 3) := by decide +kernel
theorem dX3_holds_100 : decode cX3_holds 100 = .ok (.iload 4, 2) := by decide +kernel
theorem dX3_holds_102 : decode cX3_holds 102 = .ok (.iaload, 1) := by decide +kernel
theorem dX3_holds_103 : decode cX3_holds 103 = .ok (.bipush 10, 2) := by decide +kernel
theorem dX3_holds_105 : decode cX3_holds 105 = .ok (.if_icmp .ne 31, 3) := by decide +kernel
theorem dX3_holds_108 : decode cX3_holds 108 = .ok (.aload_n 0, 1) := by decide +kernel
theorem dX3_holds_109 : decode cX3_holds 109 = .ok (.getfield 21, 3) := by decide +kernel
theorem dX3_holds_112 : decode cX3_holds 112 = .ok (.iload_n 3, 1) := by decide +kernel
theorem dX3_holds_113 : decode cX3_holds 113 = .ok (.iconst 1, 1) := by decide +kernel
theorem dX3_holds_114 : decode cX3_holds 114 = .ok (.isub, 1) := by decide +kernel
theorem dX3_holds_115 : decode cX3_holds 115 = .ok (.baload, 1) := by decide +kernel
theorem dX3_holds_116 : decode cX3_holds 116 = .ok (.ifCond .eq 16, 3) := by decide +kernel
theorem dX3_holds_119 : decode cX3_holds 119 = .ok (.aload_n 0, 1) := by decide +kernel
theorem dX3_holds_120 : decode cX3_holds 120 = .ok (.getfield 21, 3) := by decide +kernel
theorem dX3_holds_123 : decode cX3_holds 123 = .ok (.iload_n 3, 1) := by decide +kernel
theorem dX3_holds_124 : decode cX3_holds 124 = .ok (.baload, 1) := by decide +kernel
theorem dX3_holds_125 : decode cX3_holds 125 = .ok (.ifCond .eq 7, 3) := by decide +kernel
theorem dX3_holds_128 : decode cX3_holds 128 = .ok (.iconst 1, 1) := by decide +kernel
theorem dX3_holds_129 : decode cX3_holds 129 = .ok (.goto 32, 3) := by decide +kernel
theorem dX3_holds_132 : decode cX3_holds 132 = .ok (.iconst 0, 1) := by decide +kernel
theorem dX3_holds_133 : decode cX3_holds 133 = .ok (.goto 28, 3) := by decide +kernel
theorem dX3_holds_136 : decode cX3_holds 136 = .ok (.aload_n 0, 1) := by decide +kernel
theorem dX3_holds_137 : decode cX3_holds 137 = .ok (.getfield 21, 3) := by decide +kernel
theorem dX3_holds_140 : decode cX3_holds 140 = .ok (.iload_n 3, 1) := by decide +kernel
theorem dX3_holds_141 : decode cX3_holds 141 = .ok (.iconst 1, 1) := by decide +kernel
theorem dX3_holds_142 : decode cX3_holds 142 = .ok (.isub, 1) := by decide +kernel
theorem dX3_holds_143 : decode cX3_holds 143 = .ok (.baload, 1) := by decide +kernel
theorem dX3_holds_144 : decode cX3_holds 144 = .ok (.ifCond .ne 12, 3) := by decide +kernel
theorem dX3_holds_147 : decode cX3_holds 147 = .ok (.aload_n 0, 1) := by decide +kernel
theorem dX3_holds_148 : decode cX3_holds 148 = .ok (.getfield 21, 3) := by decide +kernel
theorem dX3_holds_151 : decode cX3_holds 151 = .ok (.iload_n 3, 1) := by decide +kernel
theorem dX3_holds_152 : decode cX3_holds 152 = .ok (.baload, 1) := by decide +kernel
theorem dX3_holds_153 : decode cX3_holds 153 = .ok (.ifCond .eq 7, 3) := by decide +kernel
theorem dX3_holds_156 : decode cX3_holds 156 = .ok (.iconst 1, 1) := by decide +kernel
theorem dX3_holds_157 : decode cX3_holds 157 = .ok (.goto 4, 3) := by decide +kernel
theorem dX3_holds_160 : decode cX3_holds 160 = .ok (.iconst 0, 1) := by decide +kernel
theorem dX3_holds_161 : decode cX3_holds 161 = .ok (.bastore, 1) := by decide +kernel
theorem dX3_holds_162 : decode cX3_holds 162 = .ok (.goto 26, 3) := by decide +kernel
theorem dX3_holds_165 : decode cX3_holds 165 = .ok (.iload_n 3, 1) := by decide +kernel
theorem dX3_holds_166 : decode cX3_holds 166 = .ok (.bipush 20, 2) := by decide +kernel
theorem dX3_holds_168 : decode cX3_holds 168 = .ok (.if_icmp .ge 20, 3) := by decide +kernel
theorem dX3_holds_171 : decode cX3_holds 171 = .ok (.aload_n 0, 1) := by decide +kernel
theorem dX3_holds_172 : decode cX3_holds 172 = .ok (.getfield 21, 3) := by decide +kernel
theorem dX3_holds_175 : decode cX3_holds 175 = .ok (.iload_n 3, 1) := by decide +kernel
theorem dX3_holds_176 : decode cX3_holds 176 = .ok (.aload_n 0, 1) := by decide +kernel
theorem dX3_holds_177 : decode cX3_holds 177 = .ok (.iload 4, 2) := by decide +kernel
theorem dX3_holds_179 : decode cX3_holds 179 = .ok (.iload_n 1, 1) := by decide +kernel
theorem dX3_holds_180 : decode cX3_holds 180 = .ok (.aload_n 2, 1) := by decide +kernel
theorem dX3_holds_181 : decode cX3_holds 181 = .ok (.invokevirtual 107, 3) := by decide +kernel
theorem dX3_holds_184 : decode cX3_holds 184 = .ok (.bastore, 1) := by decide +kernel
theorem dX3_holds_185 : decode cX3_holds 185 = .ok (.iinc 3 1, 3) := by decide +kernel
theorem dX3_holds_188 : decode cX3_holds 188 = .ok (.iinc 4 1, 3) := by decide +kernel
theorem dX3_holds_191 : decode cX3_holds 191 = .ok (.goto (-186), 3) := by decide +kernel
theorem dX3_holds_194 : decode cX3_holds 194 = .ok (.iload_n 3, 1) := by decide +kernel
theorem dX3_holds_195 : decode cX3_holds 195 = .ok (.ifCond .le 16, 3) := by decide +kernel
theorem dX3_holds_198 : decode cX3_holds 198 = .ok (.aload_n 0, 1) := by decide +kernel
theorem dX3_holds_199 : decode cX3_holds 199 = .ok (.getfield 21, 3) := by decide +kernel
theorem dX3_holds_202 : decode cX3_holds 202 = .ok (.iconst 0, 1) := by decide +kernel
theorem dX3_holds_203 : decode cX3_holds 203 = .ok (.baload, 1) := by decide +kernel
theorem dX3_holds_204 : decode cX3_holds 204 = .ok (.ifCond .eq 7, 3) := by decide +kernel
theorem dX3_holds_207 : decode cX3_holds 207 = .ok (.iconst 1, 1) := by decide +kernel
theorem dX3_holds_208 : decode cX3_holds 208 = .ok (.goto 4, 3) := by decide +kernel
theorem dX3_holds_211 : decode cX3_holds 211 = .ok (.iconst 0, 1) := by decide +kernel
theorem dX3_holds_212 : decode cX3_holds 212 = .ok (.ireturn, 1) := by decide +kernel
theorem dX4_becomeTown_0 : decode cX4_becomeTown 0 = .ok (.aload_n 0, 1) := by decide +kernel
theorem dX4_becomeTown_1 : decode cX4_becomeTown 1 = .ok (.getfield 10, 3) := by decide +kernel
theorem dX4_becomeTown_4 : decode cX4_becomeTown 4 = .ok (.aload_n 1, 1) := by decide +kernel
theorem dX4_becomeTown_5 : decode cX4_becomeTown 5 = .ok (.invokevirtual 46, 3) := by decide +kernel
theorem dX4_becomeTown_8 : decode cX4_becomeTown 8 = .ok (.aload_n 0, 1) := by decide +kernel
theorem dX4_becomeTown_9 : decode cX4_becomeTown 9 = .ok (.getfield 33, 3) := by decide +kernel
theorem dX4_becomeTown_12 : decode cX4_becomeTown 12 = .ok (.aload_n 0, 1) := by decide +kernel
theorem dX4_becomeTown_13 : decode cX4_becomeTown 13 = .ok (.getfield 10, 3) := by decide +kernel
theorem dX4_becomeTown_16 : decode cX4_becomeTown 16 = .ok (.invokevirtual 50, 3) := by decide +kernel
theorem dX4_becomeTown_19 : decode cX4_becomeTown 19 = .ok (.aload_n 0, 1) := by decide +kernel
theorem dX4_becomeTown_20 : decode cX4_becomeTown 20 = .ok (.getfield 19, 3) := by decide +kernel
theorem dX4_becomeTown_23 : decode cX4_becomeTown 23 = .ok (.invokevirtual 53, 3) := by decide +kernel
theorem dX4_becomeTown_26 : decode cX4_becomeTown 26 = .ok (.aload_n 0, 1) := by decide +kernel
theorem dX4_becomeTown_27 : decode cX4_becomeTown 27 = .ok (.getfield 26, 3) := by decide +kernel
theorem dX4_becomeTown_30 : decode cX4_becomeTown 30 = .ok (.invokevirtual 56, 3) := by decide +kernel
theorem dX4_becomeTown_33 : decode cX4_becomeTown 33 = .ok (.aload_n 0, 1) := by decide +kernel
theorem dX4_becomeTown_34 : decode cX4_becomeTown 34 = .ok (.getfield 42, 3) := by decide +kernel
theorem dX4_becomeTown_37 : decode cX4_becomeTown 37 = .ok (.invokevirtual 57, 3) := by decide +kernel
theorem dX4_becomeTown_40 : decode cX4_becomeTown 40 = .ok (.aload_n 0, 1) := by decide +kernel
theorem dX4_becomeTown_41 : decode cX4_becomeTown 41 = .ok (.getfield 42, 3) := by decide +kernel
theorem dX4_becomeTown_44 : decode cX4_becomeTown 44 = .ok (.iconst 0, 1) := by decide +kernel
theorem dX4_becomeTown_45 : decode cX4_becomeTown 45 = .ok (.invokevirtual 60, 3) := by decide +kernel
theorem dX4_becomeTown_48 : decode cX4_becomeTown 48 = .ok (.return_, 1) := by decide +kernel
theorem dX4_takeFrom_0 : decode cX4_takeFrom 0 = .ok (.aload_n 0, 1) := by decide +kernel
theorem dX4_takeFrom_1 : decode cX4_takeFrom 1 = .ok (.getfield 10, 3) := by decide +kernel
theorem dX4_takeFrom_4 : decode cX4_takeFrom 4 = .ok (.aload_n 1, 1) := by decide +kernel
theorem dX4_takeFrom_5 : decode cX4_takeFrom 5 = .ok (.getfield 10, 3) := by decide +kernel
theorem dX4_takeFrom_8 : decode cX4_takeFrom 8 = .ok (.invokevirtual 46, 3) := by decide +kernel
theorem dX4_takeFrom_11 : decode cX4_takeFrom 11 = .ok (.aload_n 0, 1) := by decide +kernel
theorem dX4_takeFrom_12 : decode cX4_takeFrom 12 = .ok (.getfield 33, 3) := by decide +kernel
theorem dX4_takeFrom_15 : decode cX4_takeFrom 15 = .ok (.aload_n 0, 1) := by decide +kernel
theorem dX4_takeFrom_16 : decode cX4_takeFrom 16 = .ok (.getfield 10, 3) := by decide +kernel
theorem dX4_takeFrom_19 : decode cX4_takeFrom 19 = .ok (.invokevirtual 50, 3) := by decide +kernel
theorem dX4_takeFrom_22 : decode cX4_takeFrom 22 = .ok (.aload_n 0, 1) := by decide +kernel
theorem dX4_takeFrom_23 : decode cX4_takeFrom 23 = .ok (.getfield 19, 3) := by decide +kernel
theorem dX4_takeFrom_26 : decode cX4_takeFrom 26 = .ok (.aload_n 1, 1) := by decide +kernel
theorem dX4_takeFrom_27 : decode cX4_takeFrom 27 = .ok (.getfield 19, 3) := by decide +kernel
theorem dX4_takeFrom_30 : decode cX4_takeFrom 30 = .ok (.invokevirtual 64, 3) := by decide +kernel
theorem dX4_takeFrom_33 : decode cX4_takeFrom 33 = .ok (.aload_n 0, 1) := by decide +kernel
theorem dX4_takeFrom_34 : decode cX4_takeFrom 34 = .ok (.getfield 26, 3) := by decide +kernel
theorem dX4_takeFrom_37 : decode cX4_takeFrom 37 = .ok (.aload_n 1, 1) := by decide +kernel
theorem dX4_takeFrom_38 : decode cX4_takeFrom 38 = .ok (.getfield 26, 3) := by decide +kernel
theorem dX4_takeFrom_41 : decode cX4_takeFrom 41 = .ok (.invokevirtual 67, 3) := by decide +kernel
theorem dX4_takeFrom_44 : decode cX4_takeFrom 44 = .ok (.aload_n 0, 1) := by decide +kernel
theorem dX4_takeFrom_45 : decode cX4_takeFrom 45 = .ok (.getfield 42, 3) := by decide +kernel
theorem dX4_takeFrom_48 : decode cX4_takeFrom 48 = .ok (.aload_n 1, 1) := by decide +kernel
theorem dX4_takeFrom_49 : decode cX4_takeFrom 49 = .ok (.getfield 42, 3) := by decide +kernel
theorem dX4_takeFrom_52 : decode cX4_takeFrom 52 = .ok (.invokevirtual 70, 3) := by decide +kernel
theorem dX4_takeFrom_55 : decode cX4_takeFrom 55 = .ok (.return_, 1) := by decide +kernel
theorem dX9_serve_0 : decode cX9_serve 0 = .ok (.iload_n 1, 1) := by decide +kernel
theorem dX9_serve_1 : decode cX9_serve 1 = .ok (.bipush 9, 2) := by decide +kernel
theorem dX9_serve_3 : decode cX9_serve 3 = .ok (.imul, 1) := by decide +kernel
theorem dX9_serve_4 : decode cX9_serve 4 = .ok (.istore_n 3, 1) := by decide +kernel
theorem dX9_serve_5 : decode cX9_serve 5 = .ok (.iconst 0, 1) := by decide +kernel
theorem dX9_serve_6 : decode cX9_serve 6 = .ok (.istore 4, 2) := by decide +kernel
theorem dX9_serve_8 : decode cX9_serve 8 = .ok (.iload 4, 2) := by decide +kernel
theorem dX9_serve_10 : decode cX9_serve 10 = .ok (.bipush 9, 2) := by decide +kernel
theorem dX9_serve_12 : decode cX9_serve 12 = .ok (.if_icmp .ge 43, 3) := by decide +kernel
theorem dX9_serve_15 : decode cX9_serve 15 = .ok (.aload_n 0, 1) := by decide +kernel
theorem dX9_serve_16 : decode cX9_serve 16 = .ok (.getfield 21, 3) := by decide +kernel
theorem dX9_serve_19 : decode cX9_serve 19 = .ok (.iload_n 3, 1) := by decide +kernel
theorem dX9_serve_20 : decode cX9_serve 20 = .ok (.bipush 9, 2) := by decide +kernel
theorem dX9_serve_22 : decode cX9_serve 22 = .ok (.iadd, 1) := by decide +kernel
theorem dX9_serve_23 : decode cX9_serve 23 = .ok (.iload 4, 2) := by decide +kernel
theorem dX9_serve_25 : decode cX9_serve 25 = .ok (.iadd, 1) := by decide +kernel
theorem dX9_serve_26 : decode cX9_serve 26 = .ok (.iload_n 2, 1) := by decide +kernel
theorem dX9_serve_27 : decode cX9_serve 27 = .ok (.iload 4, 2) := by decide +kernel
theorem dX9_serve_29 : decode cX9_serve 29 = .ok (.ishr, 1) := by decide +kernel
theorem dX9_serve_30 : decode cX9_serve 30 = .ok (.iconst 1, 1) := by decide +kernel
theorem dX9_serve_31 : decode cX9_serve 31 = .ok (.iand, 1) := by decide +kernel
theorem dX9_serve_32 : decode cX9_serve 32 = .ok (.ifCond .eq 7, 3) := by decide +kernel
theorem dX9_serve_35 : decode cX9_serve 35 = .ok (.iload_n 1, 1) := by decide +kernel
theorem dX9_serve_36 : decode cX9_serve 36 = .ok (.goto 12, 3) := by decide +kernel
theorem dX9_serve_39 : decode cX9_serve 39 = .ok (.aload_n 0, 1) := by decide +kernel
theorem dX9_serve_40 : decode cX9_serve 40 = .ok (.getfield 21, 3) := by decide +kernel
theorem dX9_serve_43 : decode cX9_serve 43 = .ok (.iload_n 3, 1) := by decide +kernel
theorem dX9_serve_44 : decode cX9_serve 44 = .ok (.iload 4, 2) := by decide +kernel
theorem dX9_serve_46 : decode cX9_serve 46 = .ok (.iadd, 1) := by decide +kernel
theorem dX9_serve_47 : decode cX9_serve 47 = .ok (.iaload, 1) := by decide +kernel
theorem dX9_serve_48 : decode cX9_serve 48 = .ok (.iastore, 1) := by decide +kernel
theorem dX9_serve_49 : decode cX9_serve 49 = .ok (.iinc 4 1, 3) := by decide +kernel
theorem dX9_serve_52 : decode cX9_serve 52 = .ok (.goto (-44), 3) := by decide +kernel
theorem dX9_serve_55 : decode cX9_serve 55 = .ok (.return_, 1) := by decide +kernel
theorem dX9_waitAt_0 : decode cX9_waitAt 0 = .ok (.iconst 0, 1) := by decide +kernel
theorem dX9_waitAt_1 : decode cX9_waitAt 1 = .ok (.istore_n 2, 1) := by decide +kernel
theorem dX9_waitAt_2 : decode cX9_waitAt 2 = .ok (.iconst 0, 1) := by decide +kernel
theorem dX9_waitAt_3 : decode cX9_waitAt 3 = .ok (.istore_n 3, 1) := by decide +kernel
theorem dX9_waitAt_4 : decode cX9_waitAt 4 = .ok (.iload_n 3, 1) := by decide +kernel
theorem dX9_waitAt_5 : decode cX9_waitAt 5 = .ok (.bipush 9, 2) := by decide +kernel
theorem dX9_waitAt_7 : decode cX9_waitAt 7 = .ok (.if_icmp .ge 40, 3) := by decide +kernel
theorem dX9_waitAt_10 : decode cX9_waitAt 10 = .ok (.aload_n 0, 1) := by decide +kernel
theorem dX9_waitAt_11 : decode cX9_waitAt 11 = .ok (.getfield 41, 3) := by decide +kernel
theorem dX9_waitAt_14 : decode cX9_waitAt 14 = .ok (.iload_n 3, 1) := by decide +kernel
theorem dX9_waitAt_15 : decode cX9_waitAt 15 = .ok (.ishr, 1) := by decide +kernel
theorem dX9_waitAt_16 : decode cX9_waitAt 16 = .ok (.iconst 1, 1) := by decide +kernel
theorem dX9_waitAt_17 : decode cX9_waitAt 17 = .ok (.iand, 1) := by decide +kernel
theorem dX9_waitAt_18 : decode cX9_waitAt 18 = .ok (.ifCond .eq 23, 3) := by decide +kernel
theorem dX9_waitAt_21 : decode cX9_waitAt 21 = .ok (.iload_n 2, 1) := by decide +kernel
theorem dX9_waitAt_22 : decode cX9_waitAt 22 = .ok (.iload_n 1, 1) := by decide +kernel
theorem dX9_waitAt_23 : decode cX9_waitAt 23 = .ok (.iconst 1, 1) := by decide +kernel
theorem dX9_waitAt_24 : decode cX9_waitAt 24 = .ok (.isub, 1) := by decide +kernel
theorem dX9_waitAt_25 : decode cX9_waitAt 25 = .ok (.aload_n 0, 1) := by decide +kernel
theorem dX9_waitAt_26 : decode cX9_waitAt 26 = .ok (.getfield 21, 3) := by decide +kernel
theorem dX9_waitAt_29 : decode cX9_waitAt 29 = .ok (.iload_n 1, 1) := by decide +kernel
theorem dX9_waitAt_30 : decode cX9_waitAt 30 = .ok (.bipush 9, 2) := by decide +kernel
theorem dX9_waitAt_32 : decode cX9_waitAt 32 = .ok (.imul, 1) := by decide +kernel
theorem dX9_waitAt_33 : decode cX9_waitAt 33 = .ok (.iload_n 3, 1) := by decide +kernel
theorem dX9_waitAt_34 : decode cX9_waitAt 34 = .ok (.iadd, 1) := by decide +kernel
theorem dX9_waitAt_35 : decode cX9_waitAt 35 = .ok (.iaload, 1) := by decide +kernel
theorem dX9_waitAt_36 : decode cX9_waitAt 36 = .ok (.isub, 1) := by decide +kernel
theorem dX9_waitAt_37 : decode cX9_waitAt 37 = .ok (.invokestatic 69, 3) := by decide +kernel
theorem dX9_waitAt_40 : decode cX9_waitAt 40 = .ok (.istore_n 2, 1) := by decide +kernel
theorem dX9_waitAt_41 : decode cX9_waitAt 41 = .ok (.iinc 3 1, 3) := by decide +kernel
theorem dX9_waitAt_44 : decode cX9_waitAt 44 = .ok (.goto (-40), 3) := by decide +kernel
theorem dX9_waitAt_47 : decode cX9_waitAt 47 = .ok (.iload_n 2, 1) := by decide +kernel
theorem dX9_waitAt_48 : decode cX9_waitAt 48 = .ok (.ireturn, 1) := by decide +kernel
theorem dX9_hasSandNear_0 : decode cX9_hasSandNear 0 = .ok (.iconst 0, 1) := by decide +kernel
theorem dX9_hasSandNear_1 : decode cX9_hasSandNear 1 = .ok (.istore_n 3, 1) := by decide +kernel
theorem dX9_hasSandNear_2 : decode cX9_hasSandNear 2 = .ok (.iload_n 3, 1) := by decide +kernel
theorem dX9_hasSandNear_3 : decode cX9_hasSandNear 3 = .ok (.iconst 5, 1) := by decide +kernel
theorem dX9_hasSandNear_4 : decode cX9_hasSandNear 4 = .ok (.if_icmp .ge 35, 3) := by decide +kernel
theorem dX9_hasSandNear_7 : decode cX9_hasSandNear 7 = .ok (.aload_n 0, 1) := by decide +kernel
theorem dX9_hasSandNear_8 : decode cX9_hasSandNear 8 = .ok (.iload_n 2, 1) := by decide +kernel
theorem dX9_hasSandNear_9 : decode cX9_hasSandNear 9 = .ok (.iload_n 3, 1) := by decide +kernel
theorem dX9_hasSandNear_10 : decode cX9_hasSandNear 10 = .ok (.invokevirtual 112, 3) := by decide +kernel
theorem dX9_hasSandNear_13 : decode cX9_hasSandNear 13 = .ok (.istore 4, 2) := by decide +kernel
theorem dX9_hasSandNear_15 : decode cX9_hasSandNear 15 = .ok (.iload 4, 2) := by decide +kernel
theorem dX9_hasSandNear_17 : decode cX9_hasSandNear 17 = .ok (.iconst (-1), 1) := by decide +kernel
theorem dX9_hasSandNear_18 : decode cX9_hasSandNear 18 = .ok (.if_icmp .eq 15, 3) := by decide +kernel
theorem dX9_hasSandNear_21 : decode cX9_hasSandNear 21 = .ok (.aload_n 1, 1) := by decide +kernel
theorem dX9_hasSandNear_22 : decode cX9_hasSandNear 22 = .ok (.getfield 115, 3) := by decide +kernel
theorem dX9_hasSandNear_25 : decode cX9_hasSandNear 25 = .ok (.iload 4, 2) := by decide +kernel
theorem dX9_hasSandNear_27 : decode cX9_hasSandNear 27 = .ok (.iaload, 1) := by decide +kernel
theorem dX9_hasSandNear_28 : decode cX9_hasSandNear 28 = .ok (.ifCond .eq 5, 3) := by decide +kernel
theorem dX9_hasSandNear_31 : decode cX9_hasSandNear 31 = .ok (.iconst 1, 1) := by decide +kernel
theorem dX9_hasSandNear_32 : decode cX9_hasSandNear 32 = .ok (.ireturn, 1) := by decide +kernel
theorem dX9_hasSandNear_33 : decode cX9_hasSandNear 33 = .ok (.iinc 3 1, 3) := by decide +kernel
theorem dX9_hasSandNear_36 : decode cX9_hasSandNear 36 = .ok (.goto (-34), 3) := by decide +kernel
theorem dX9_hasSandNear_39 : decode cX9_hasSandNear 39 = .ok (.iconst 0, 1) := by decide +kernel
theorem dX9_hasSandNear_40 : decode cX9_hasSandNear 40 = .ok (.ireturn, 1) := by decide +kernel
theorem dX9_findWet_0 : decode cX9_findWet 0 = .ok (.iconst 0, 1) := by decide +kernel
theorem dX9_findWet_1 : decode cX9_findWet 1 = .ok (.istore_n 3, 1) := by decide +kernel
theorem dX9_findWet_2 : decode cX9_findWet 2 = .ok (.aload_n 0, 1) := by decide +kernel
theorem dX9_findWet_3 : decode cX9_findWet 3 = .ok (.getfield 24, 3) := by decide +kernel
theorem dX9_findWet_6 : decode cX9_findWet 6 = .ok (.iconst 0, 1) := by decide +kernel
theorem dX9_findWet_7 : decode cX9_findWet 7 = .ok (.invokestatic 47, 3) := by decide +kernel
theorem dX9_findWet_10 : decode cX9_findWet 10 = .ok (.iconst 0, 1) := by decide +kernel
theorem dX9_findWet_11 : decode cX9_findWet 11 = .ok (.istore 4, 2) := by decide +kernel
theorem dX9_findWet_13 : decode cX9_findWet 13 = .ok (.iload 4, 2) := by decide +kernel
theorem dX9_findWet_15 : decode cX9_findWet 15 = .ok (.aload_n 1, 1) := by decide +kernel
theorem dX9_findWet_16 : decode cX9_findWet 16 = .ok (.getfield 53, 3) := by decide +kernel
theorem dX9_findWet_19 : decode cX9_findWet 19 = .ok (.if_icmp .ge 98, 3) := by decide +kernel
theorem dX9_findWet_22 : decode cX9_findWet 22 = .ok (.aload_n 2, 1) := by decide +kernel
theorem dX9_findWet_23 : decode cX9_findWet 23 = .ok (.getfield 100, 3) := by decide +kernel
theorem dX9_findWet_26 : decode cX9_findWet 26 = .ok (.aload_n 1, 1) := by decide +kernel
theorem dX9_findWet_27 : decode cX9_findWet 27 = .ok (.getfield 105, 3) := by decide +kernel
theorem dX9_findWet_30 : decode cX9_findWet 30 = .ok (.iload 4, 2) := by decide +kernel
theorem dX9_findWet_32 : decode cX9_findWet 32 = .ok (.iaload, 1) := by decide +kernel
theorem dX9_findWet_33 : decode cX9_findWet 33 = .ok (.iaload, 1) := by decide +kernel
theorem dX9_findWet_34 : decode cX9_findWet 34 = .ok (.bipush 10, 2) := by decide +kernel
theorem dX9_findWet_36 : decode cX9_findWet 36 = .ok (.if_icmp .lt 75, 3) := by decide +kernel
theorem dX9_findWet_39 : decode cX9_findWet 39 = .ok (.aload_n 1, 1) := by decide +kernel
theorem dX9_findWet_40 : decode cX9_findWet 40 = .ok (.aload_n 2, 1) := by decide +kernel
theorem dX9_findWet_41 : decode cX9_findWet 41 = .ok (.aload_n 1, 1) := by decide +kernel
theorem dX9_findWet_42 : decode cX9_findWet 42 = .ok (.getfield 105, 3) := by decide +kernel
theorem dX9_findWet_45 : decode cX9_findWet 45 = .ok (.iload 4, 2) := by decide +kernel
theorem dX9_findWet_47 : decode cX9_findWet 47 = .ok (.iaload, 1) := by decide +kernel
theorem dX9_findWet_48 : decode cX9_findWet 48 = .ok (.invokestatic 108, 3) := by decide +kernel
theorem dX9_findWet_51 : decode cX9_findWet 51 = .ok (.ifCond .ne 60, 3) := by decide +kernel
theorem dX9_findWet_54 : decode cX9_findWet 54 = .ok (.iload_n 3, 1) := by decide +kernel
theorem dX9_findWet_55 : decode cX9_findWet 55 = .ok (.iconst 1, 1) := by decide +kernel
theorem dX9_findWet_56 : decode cX9_findWet 56 = .ok (.iload 4, 2) := by decide +kernel
theorem dX9_findWet_58 : decode cX9_findWet 58 = .ok (.ishl, 1) := by decide +kernel
theorem dX9_findWet_59 : decode cX9_findWet 59 = .ok (.ior, 1) := by decide +kernel
theorem dX9_findWet_60 : decode cX9_findWet 60 = .ok (.istore_n 3, 1) := by decide +kernel
theorem dX9_findWet_61 : decode cX9_findWet 61 = .ok (.iconst 0, 1) := by decide +kernel
theorem dX9_findWet_62 : decode cX9_findWet 62 = .ok (.istore 5, 2) := by decide +kernel
theorem dX9_findWet_64 : decode cX9_findWet 64 = .ok (.iload 5, 2) := by decide +kernel
theorem dX9_findWet_66 : decode cX9_findWet 66 = .ok (.iconst 5, 1) := by decide +kernel
theorem dX9_findWet_67 : decode cX9_findWet 67 = .ok (.if_icmp .ge 44, 3) := by decide +kernel
theorem dX9_findWet_70 : decode cX9_findWet 70 = .ok (.aload_n 1, 1) := by decide +kernel
theorem dX9_findWet_71 : decode cX9_findWet 71 = .ok (.aload_n 1, 1) := by decide +kernel
theorem dX9_findWet_72 : decode cX9_findWet 72 = .ok (.getfield 105, 3) := by decide +kernel
theorem dX9_findWet_75 : decode cX9_findWet 75 = .ok (.iload 4, 2) := by decide +kernel
theorem dX9_findWet_77 : decode cX9_findWet 77 = .ok (.iaload, 1) := by decide +kernel
theorem dX9_findWet_78 : decode cX9_findWet 78 = .ok (.iload 5, 2) := by decide +kernel
theorem dX9_findWet_80 : decode cX9_findWet 80 = .ok (.invokevirtual 112, 3) := by decide +kernel
theorem dX9_findWet_83 : decode cX9_findWet 83 = .ok (.istore 6, 2) := by decide +kernel
theorem dX9_findWet_85 : decode cX9_findWet 85 = .ok (.iload 6, 2) := by decide +kernel
theorem dX9_findWet_87 : decode cX9_findWet 87 = .ok (.iconst (-1), 1) := by decide +kernel
theorem dX9_findWet_88 : decode cX9_findWet 88 = .ok (.if_icmp .eq 17, 3) := by decide +kernel
theorem dX9_findWet_91 : decode cX9_findWet 91 = .ok (.aload_n 0, 1) := by decide +kernel
theorem dX9_findWet_92 : decode cX9_findWet 92 = .ok (.getfield 24, 3) := by decide +kernel
theorem dX9_findWet_95 : decode cX9_findWet 95 = .ok (.iload 6, 2) := by decide +kernel
theorem dX9_findWet_97 : decode cX9_findWet 97 = .ok (.dup2, 1) := by decide +kernel
theorem dX9_findWet_98 : decode cX9_findWet 98 = .ok (.iaload, 1) := by decide +kernel
theorem dX9_findWet_99 : decode cX9_findWet 99 = .ok (.iconst 1, 1) := by decide +kernel
theorem dX9_findWet_100 : decode cX9_findWet 100 = .ok (.iload 4, 2) := by decide +kernel
theorem dX9_findWet_102 : decode cX9_findWet 102 = .ok (.ishl, 1) := by decide +kernel
theorem dX9_findWet_103 : decode cX9_findWet 103 = .ok (.ior, 1) := by decide +kernel
theorem dX9_findWet_104 : decode cX9_findWet 104 = .ok (.iastore, 1) := by decide +kernel
theorem dX9_findWet_105 : decode cX9_findWet 105 = .ok (.iinc 5 1, 3) := by decide +kernel
theorem dX9_findWet_108 : decode cX9_findWet 108 = .ok (.goto (-44), 3) := by decide +kernel
theorem dX9_findWet_111 : decode cX9_findWet 111 = .ok (.iinc 4 1, 3) := by decide +kernel
theorem dX9_findWet_114 : decode cX9_findWet 114 = .ok (.goto (-101), 3) := by decide +kernel
theorem dX9_findWet_117 : decode cX9_findWet 117 = .ok (.iload_n 3, 1) := by decide +kernel
theorem dX9_findWet_118 : decode cX9_findWet 118 = .ok (.ireturn, 1) := by decide +kernel
theorem dX9_layOn_0 : decode cX9_layOn 0 = .ok (.iload_n 2, 1) := by decide +kernel
theorem dX9_layOn_1 : decode cX9_layOn 1 = .ok (.istore_n 3, 1) := by decide +kernel
theorem dX9_layOn_2 : decode cX9_layOn 2 = .ok (.iload_n 3, 1) := by decide +kernel
theorem dX9_layOn_3 : decode cX9_layOn 3 = .ok (.ifCond .le 87, 3) := by decide +kernel
theorem dX9_layOn_6 : decode cX9_layOn 6 = .ok (.iload_n 3, 1) := by decide +kernel
theorem dX9_layOn_7 : decode cX9_layOn 7 = .ok (.aload_n 0, 1) := by decide +kernel
theorem dX9_layOn_8 : decode cX9_layOn 8 = .ok (.getfield 24, 3) := by decide +kernel
theorem dX9_layOn_11 : decode cX9_layOn 11 = .ok (.iload_n 1, 1) := by decide +kernel
theorem dX9_layOn_12 : decode cX9_layOn 12 = .ok (.iaload, 1) := by decide +kernel
theorem dX9_layOn_13 : decode cX9_layOn 13 = .ok (.iconst (-1), 1) := by decide +kernel
theorem dX9_layOn_14 : decode cX9_layOn 14 = .ok (.ixor, 1) := by decide +kernel
theorem dX9_layOn_15 : decode cX9_layOn 15 = .ok (.iand, 1) := by decide +kernel
theorem dX9_layOn_16 : decode cX9_layOn 16 = .ok (.istore 4, 2) := by decide +kernel
theorem dX9_layOn_18 : decode cX9_layOn 18 = .ok (.iload 4, 2) := by decide +kernel
theorem dX9_layOn_20 : decode cX9_layOn 20 = .ok (.iload_n 3, 1) := by decide +kernel
theorem dX9_layOn_21 : decode cX9_layOn 21 = .ok (.if_icmp .eq 63, 3) := by decide +kernel
theorem dX9_layOn_24 : decode cX9_layOn 24 = .ok (.aload_n 0, 1) := by decide +kernel
theorem dX9_layOn_25 : decode cX9_layOn 25 = .ok (.getfield 27, 3) := by decide +kernel
theorem dX9_layOn_28 : decode cX9_layOn 28 = .ok (.iload 4, 2) := by decide +kernel
theorem dX9_layOn_30 : decode cX9_layOn 30 = .ok (.iaload, 1) := by decide +kernel
theorem dX9_layOn_31 : decode cX9_layOn 31 = .ok (.iconst 1, 1) := by decide +kernel
theorem dX9_layOn_32 : decode cX9_layOn 32 = .ok (.iadd, 1) := by decide +kernel
theorem dX9_layOn_33 : decode cX9_layOn 33 = .ok (.aload_n 0, 1) := by decide +kernel
theorem dX9_layOn_34 : decode cX9_layOn 34 = .ok (.getfield 27, 3) := by decide +kernel
theorem dX9_layOn_37 : decode cX9_layOn 37 = .ok (.iload_n 3, 1) := by decide +kernel
theorem dX9_layOn_38 : decode cX9_layOn 38 = .ok (.iaload, 1) := by decide +kernel
theorem dX9_layOn_39 : decode cX9_layOn 39 = .ok (.if_icmp .gt 45, 3) := by decide +kernel
theorem dX9_layOn_42 : decode cX9_layOn 42 = .ok (.aload_n 0, 1) := by decide +kernel
theorem dX9_layOn_43 : decode cX9_layOn 43 = .ok (.getfield 27, 3) := by decide +kernel
theorem dX9_layOn_46 : decode cX9_layOn 46 = .ok (.iload_n 3, 1) := by decide +kernel
theorem dX9_layOn_47 : decode cX9_layOn 47 = .ok (.aload_n 0, 1) := by decide +kernel
theorem dX9_layOn_48 : decode cX9_layOn 48 = .ok (.getfield 27, 3) := by decide +kernel
theorem dX9_layOn_51 : decode cX9_layOn 51 = .ok (.iload 4, 2) := by decide +kernel
theorem dX9_layOn_53 : decode cX9_layOn 53 = .ok (.iaload, 1) := by decide +kernel
theorem dX9_layOn_54 : decode cX9_layOn 54 = .ok (.iconst 1, 1) := by decide +kernel
theorem dX9_layOn_55 : decode cX9_layOn 55 = .ok (.iadd, 1) := by decide +kernel
theorem dX9_layOn_56 : decode cX9_layOn 56 = .ok (.iastore, 1) := by decide +kernel
theorem dX9_layOn_57 : decode cX9_layOn 57 = .ok (.aload_n 0, 1) := by decide +kernel
theorem dX9_layOn_58 : decode cX9_layOn 58 = .ok (.getfield 30, 3) := by decide +kernel
theorem dX9_layOn_61 : decode cX9_layOn 61 = .ok (.iload_n 3, 1) := by decide +kernel
theorem dX9_layOn_62 : decode cX9_layOn 62 = .ok (.aload_n 0, 1) := by decide +kernel
theorem dX9_layOn_63 : decode cX9_layOn 63 = .ok (.getfield 30, 3) := by decide +kernel
theorem dX9_layOn_66 : decode cX9_layOn 66 = .ok (.iload 4, 2) := by decide +kernel
theorem dX9_layOn_68 : decode cX9_layOn 68 = .ok (.laload, 1) := by decide +kernel
theorem dX9_layOn_69 : decode cX9_layOn 69 = .ok (.iload_n 1, 1) := by decide +kernel
theorem dX9_layOn_70 : decode cX9_layOn 70 = .ok (.i2l, 1) := by decide +kernel
theorem dX9_layOn_71 : decode cX9_layOn 71 = .ok (.bipush 7, 2) := by decide +kernel
theorem dX9_layOn_73 : decode cX9_layOn 73 = .ok (.aload_n 0, 1) := by decide +kernel
theorem dX9_layOn_74 : decode cX9_layOn 74 = .ok (.getfield 27, 3) := by decide +kernel
theorem dX9_layOn_77 : decode cX9_layOn 77 = .ok (.iload 4, 2) := by decide +kernel
theorem dX9_layOn_79 : decode cX9_layOn 79 = .ok (.iaload, 1) := by decide +kernel
theorem dX9_layOn_80 : decode cX9_layOn 80 = .ok (.imul, 1) := by decide +kernel
theorem dX9_layOn_81 : decode cX9_layOn 81 = .ok (.lshl, 1) := by decide +kernel
theorem dX9_layOn_82 : decode cX9_layOn 82 = .ok (.lor, 1) := by decide +kernel
theorem dX9_layOn_83 : decode cX9_layOn 83 = .ok (.lastore, 1) := by decide +kernel
theorem dX9_layOn_84 : decode cX9_layOn 84 = .ok (.iinc 3 (-1), 3) := by decide +kernel
theorem dX9_layOn_87 : decode cX9_layOn 87 = .ok (.goto (-85), 3) := by decide +kernel
theorem dX9_layOn_90 : decode cX9_layOn 90 = .ok (.return_, 1) := by decide +kernel
theorem dX9_findSand_0 : decode cX9_findSand 0 = .ok (.aload_n 0, 1) := by decide +kernel
theorem dX9_findSand_1 : decode cX9_findSand 1 = .ok (.aload_n 1, 1) := by decide +kernel
theorem dX9_findSand_2 : decode cX9_findSand 2 = .ok (.aload_n 2, 1) := by decide +kernel
theorem dX9_findSand_3 : decode cX9_findSand 3 = .ok (.invokevirtual 86, 3) := by decide +kernel
theorem dX9_findSand_6 : decode cX9_findSand 6 = .ok (.istore_n 3, 1) := by decide +kernel
theorem dX9_findSand_7 : decode cX9_findSand 7 = .ok (.aload_n 0, 1) := by decide +kernel
theorem dX9_findSand_8 : decode cX9_findSand 8 = .ok (.getfield 27, 3) := by decide +kernel
theorem dX9_findSand_11 : decode cX9_findSand 11 = .ok (.bipush 10, 2) := by decide +kernel
theorem dX9_findSand_13 : decode cX9_findSand 13 = .ok (.invokestatic 47, 3) := by decide +kernel
theorem dX9_findSand_16 : decode cX9_findSand 16 = .ok (.aload_n 0, 1) := by decide +kernel
theorem dX9_findSand_17 : decode cX9_findSand 17 = .ok (.getfield 27, 3) := by decide +kernel
theorem dX9_findSand_20 : decode cX9_findSand 20 = .ok (.iconst 0, 1) := by decide +kernel
theorem dX9_findSand_21 : decode cX9_findSand 21 = .ok (.iconst 0, 1) := by decide +kernel
theorem dX9_findSand_22 : decode cX9_findSand 22 = .ok (.iastore, 1) := by decide +kernel
theorem dX9_findSand_23 : decode cX9_findSand 23 = .ok (.aload_n 0, 1) := by decide +kernel
theorem dX9_findSand_24 : decode cX9_findSand 24 = .ok (.getfield 30, 3) := by decide +kernel
theorem dX9_findSand_27 : decode cX9_findSand 27 = .ok (.iconst 0, 1) := by decide +kernel
theorem dX9_findSand_28 : decode cX9_findSand 28 = .ok (.lconst 0, 1) := by decide +kernel
theorem dX9_findSand_29 : decode cX9_findSand 29 = .ok (.lastore, 1) := by decide +kernel
theorem dX9_findSand_30 : decode cX9_findSand 30 = .ok (.bipush 99, 2) := by decide +kernel
theorem dX9_findSand_32 : decode cX9_findSand 32 = .ok (.istore 4, 2) := by decide +kernel
theorem dX9_findSand_34 : decode cX9_findSand 34 = .ok (.iload 4, 2) := by decide +kernel
theorem dX9_findSand_36 : decode cX9_findSand 36 = .ok (.ifCond .lt 26, 3) := by decide +kernel
theorem dX9_findSand_39 : decode cX9_findSand 39 = .ok (.aload_n 0, 1) := by decide +kernel
theorem dX9_findSand_40 : decode cX9_findSand 40 = .ok (.getfield 24, 3) := by decide +kernel
theorem dX9_findSand_43 : decode cX9_findSand 43 = .ok (.iload 4, 2) := by decide +kernel
theorem dX9_findSand_45 : decode cX9_findSand 45 = .ok (.iaload, 1) := by decide +kernel
theorem dX9_findSand_46 : decode cX9_findSand 46 = .ok (.ifCond .eq 10, 3) := by decide +kernel
theorem dX9_findSand_49 : decode cX9_findSand 49 = .ok (.aload_n 0, 1) := by decide +kernel
theorem dX9_findSand_50 : decode cX9_findSand 50 = .ok (.iload 4, 2) := by decide +kernel
theorem dX9_findSand_52 : decode cX9_findSand 52 = .ok (.iload_n 3, 1) := by decide +kernel
theorem dX9_findSand_53 : decode cX9_findSand 53 = .ok (.invokevirtual 90, 3) := by decide +kernel
theorem dX9_findSand_56 : decode cX9_findSand 56 = .ok (.iinc 4 (-1), 3) := by decide +kernel
theorem dX9_findSand_59 : decode cX9_findSand 59 = .ok (.goto (-25), 3) := by decide +kernel
theorem dX9_findSand_62 : decode cX9_findSand 62 = .ok (.aload_n 0, 1) := by decide +kernel
theorem dX9_findSand_63 : decode cX9_findSand 63 = .ok (.aload_n 0, 1) := by decide +kernel
theorem dX9_findSand_64 : decode cX9_findSand 64 = .ok (.getfield 27, 3) := by decide +kernel
theorem dX9_findSand_67 : decode cX9_findSand 67 = .ok (.iload_n 3, 1) := by decide +kernel
theorem dX9_findSand_68 : decode cX9_findSand 68 = .ok (.iaload, 1) := by decide +kernel
theorem dX9_findSand_69 : decode cX9_findSand 69 = .ok (.putfield 93, 3) := by decide +kernel
theorem dX9_findSand_72 : decode cX9_findSand 72 = .ok (.aload_n 0, 1) := by decide +kernel
theorem dX9_findSand_73 : decode cX9_findSand 73 = .ok (.aload_n 0, 1) := by decide +kernel
theorem dX9_findSand_74 : decode cX9_findSand 74 = .ok (.getfield 30, 3) := by decide +kernel
theorem dX9_findSand_77 : decode cX9_findSand 77 = .ok (.iload_n 3, 1) := by decide +kernel
theorem dX9_findSand_78 : decode cX9_findSand 78 = .ok (.laload, 1) := by decide +kernel
theorem dX9_findSand_79 : decode cX9_findSand 79 = .ok (.putfield 96, 3) := by decide +kernel
theorem dX9_findSand_82 : decode cX9_findSand 82 = .ok (.aload_n 0, 1) := by decide +kernel
theorem dX9_findSand_83 : decode cX9_findSand 83 = .ok (.getfield 93, 3) := by decide +kernel
theorem dX9_findSand_86 : decode cX9_findSand 86 = .ok (.ireturn, 1) := by decide +kernel
theorem dX9_sandAt_0 : decode cX9_sandAt 0 = .ok (.iload_n 1, 1) := by decide +kernel
theorem dX9_sandAt_1 : decode cX9_sandAt 1 = .ok (.ifCond .lt 11, 3) := by decide +kernel
theorem dX9_sandAt_4 : decode cX9_sandAt 4 = .ok (.iload_n 1, 1) := by decide +kernel
theorem dX9_sandAt_5 : decode cX9_sandAt 5 = .ok (.aload_n 0, 1) := by decide +kernel
theorem dX9_sandAt_6 : decode cX9_sandAt 6 = .ok (.getfield 93, 3) := by decide +kernel
theorem dX9_sandAt_9 : decode cX9_sandAt 9 = .ok (.if_icmp .lt 5, 3) := by decide +kernel
theorem dX9_sandAt_12 : decode cX9_sandAt 12 = .ok (.iconst (-1), 1) := by decide +kernel
theorem dX9_sandAt_13 : decode cX9_sandAt 13 = .ok (.ireturn, 1) := by decide +kernel
theorem dX9_sandAt_14 : decode cX9_sandAt 14 = .ok (.aload_n 0, 1) := by decide +kernel
theorem dX9_sandAt_15 : decode cX9_sandAt 15 = .ok (.getfield 96, 3) := by decide +kernel
theorem dX9_sandAt_18 : decode cX9_sandAt 18 = .ok (.bipush 7, 2) := by decide +kernel
theorem dX9_sandAt_20 : decode cX9_sandAt 20 = .ok (.aload_n 0, 1) := by decide +kernel
theorem dX9_sandAt_21 : decode cX9_sandAt 21 = .ok (.getfield 93, 3) := by decide +kernel
theorem dX9_sandAt_24 : decode cX9_sandAt 24 = .ok (.iconst 1, 1) := by decide +kernel
theorem dX9_sandAt_25 : decode cX9_sandAt 25 = .ok (.isub, 1) := by decide +kernel
theorem dX9_sandAt_26 : decode cX9_sandAt 26 = .ok (.iload_n 1, 1) := by decide +kernel
theorem dX9_sandAt_27 : decode cX9_sandAt 27 = .ok (.isub, 1) := by decide +kernel
theorem dX9_sandAt_28 : decode cX9_sandAt 28 = .ok (.imul, 1) := by decide +kernel
theorem dX9_sandAt_29 : decode cX9_sandAt 29 = .ok (.lshr, 1) := by decide +kernel
theorem dX9_sandAt_30 : decode cX9_sandAt 30 = .ok (.l2i, 1) := by decide +kernel
theorem dX9_sandAt_31 : decode cX9_sandAt 31 = .ok (.bipush 127, 2) := by decide +kernel
theorem dX9_sandAt_33 : decode cX9_sandAt 33 = .ok (.iand, 1) := by decide +kernel
theorem dX9_sandAt_34 : decode cX9_sandAt 34 = .ok (.ireturn, 1) := by decide +kernel
