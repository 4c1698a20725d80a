theorem dX1_nearestVisit_0 : decode cX1_nearestVisit 0 = .ok (.iconst (-1), 1) := by decide +kernel
theorem dX1_nearestVisit_1 : decode cX1_nearestVisit 1 = .ok (.istore 7, 2) := by decide +kernel
theorem dX1_nearestVisit_3 : decode cX1_nearestVisit 3 = .ok (.iload_n 3, 1) := by decide +kernel
theorem dX1_nearestVisit_4 : decode cX1_nearestVisit 4 = .ok (.iconst 1, 1) := by decide +kernel
theorem dX1_nearestVisit_5 : decode cX1_nearestVisit 5 = .ok (.iadd, 1) := by decide +kernel
theorem dX1_nearestVisit_6 : decode cX1_nearestVisit 6 = .ok (.istore 8, 2) := by decide +kernel
theorem dX1_nearestVisit_8 : decode cX1_nearestVisit 8 = .ok (.aload_n 0, 1) := by decide +kernel
theorem dX1_nearestVisit_9 : decode cX1_nearestVisit 9 = .ok (.getfield 37, 3) := by decide +kernel
theorem dX1_nearestVisit_12 : decode cX1_nearestVisit 12 = .ok (.iload_n 2, 1) := by decide +kernel
theorem dX1_nearestVisit_13 : decode cX1_nearestVisit 13 = .ok (.iaload, 1) := by decide +kernel
theorem dX1_nearestVisit_14 : decode cX1_nearestVisit 14 = .ok (.istore 9, 2) := by decide +kernel
theorem dX1_nearestVisit_16 : decode cX1_nearestVisit 16 = .ok (.iload 9, 2) := by decide +kernel
theorem dX1_nearestVisit_18 : decode cX1_nearestVisit 18 = .ok (.aload_n 0, 1) := by decide +kernel
theorem dX1_nearestVisit_19 : decode cX1_nearestVisit 19 = .ok (.getfield 37, 3) := by decide +kernel
theorem dX1_nearestVisit_22 : decode cX1_nearestVisit 22 = .ok (.iload_n 2, 1) := by decide +kernel
theorem dX1_nearestVisit_23 : decode cX1_nearestVisit 23 = .ok (.iconst 1, 1) := by decide +kernel
theorem dX1_nearestVisit_24 : decode cX1_nearestVisit 24 = .ok (.iadd, 1) := by decide +kernel
theorem dX1_nearestVisit_25 : decode cX1_nearestVisit 25 = .ok (.iaload, 1) := by decide +kernel
theorem dX1_nearestVisit_26 : decode cX1_nearestVisit 26 = .ok (.if_icmp .ge 66, 3) := by decide +kernel
theorem dX1_nearestVisit_29 : decode cX1_nearestVisit 29 = .ok (.aload_n 0, 1) := by decide +kernel
theorem dX1_nearestVisit_30 : decode cX1_nearestVisit 30 = .ok (.getfield 40, 3) := by decide +kernel
theorem dX1_nearestVisit_33 : decode cX1_nearestVisit 33 = .ok (.iload 9, 2) := by decide +kernel
theorem dX1_nearestVisit_35 : decode cX1_nearestVisit 35 = .ok (.iaload, 1) := by decide +kernel
theorem dX1_nearestVisit_36 : decode cX1_nearestVisit 36 = .ok (.istore 10, 2) := by decide +kernel
theorem dX1_nearestVisit_38 : decode cX1_nearestVisit 38 = .ok (.aload_n 0, 1) := by decide +kernel
theorem dX1_nearestVisit_39 : decode cX1_nearestVisit 39 = .ok (.getfield 11, 3) := by decide +kernel
theorem dX1_nearestVisit_42 : decode cX1_nearestVisit 42 = .ok (.iload_n 1, 1) := by decide +kernel
theorem dX1_nearestVisit_43 : decode cX1_nearestVisit 43 = .ok (.bipush 20, 2) := by decide +kernel
theorem dX1_nearestVisit_45 : decode cX1_nearestVisit 45 = .ok (.imul, 1) := by decide +kernel
theorem dX1_nearestVisit_46 : decode cX1_nearestVisit 46 = .ok (.iload 10, 2) := by decide +kernel
theorem dX1_nearestVisit_48 : decode cX1_nearestVisit 48 = .ok (.iadd, 1) := by decide +kernel
theorem dX1_nearestVisit_49 : decode cX1_nearestVisit 49 = .ok (.iaload, 1) := by decide +kernel
theorem dX1_nearestVisit_50 : decode cX1_nearestVisit 50 = .ok (.iload 8, 2) := by decide +kernel
theorem dX1_nearestVisit_52 : decode cX1_nearestVisit 52 = .ok (.if_icmp .ge 34, 3) := by decide +kernel
theorem dX1_nearestVisit_55 : decode cX1_nearestVisit 55 = .ok (.aload 5, 2) := by decide +kernel
theorem dX1_nearestVisit_57 : decode cX1_nearestVisit 57 = .ok (.iload 6, 2) := by decide +kernel
theorem dX1_nearestVisit_59 : decode cX1_nearestVisit 59 = .ok (.iload 10, 2) := by decide +kernel
theorem dX1_nearestVisit_61 : decode cX1_nearestVisit 61 = .ok (.iadd, 1) := by decide +kernel
theorem dX1_nearestVisit_62 : decode cX1_nearestVisit 62 = .ok (.iaload, 1) := by decide +kernel
theorem dX1_nearestVisit_63 : decode cX1_nearestVisit 63 = .ok (.iload 4, 2) := by decide +kernel
theorem dX1_nearestVisit_65 : decode cX1_nearestVisit 65 = .ok (.if_icmp .ge 21, 3) := by decide +kernel
theorem dX1_nearestVisit_68 : decode cX1_nearestVisit 68 = .ok (.aload_n 0, 1) := by decide +kernel
theorem dX1_nearestVisit_69 : decode cX1_nearestVisit 69 = .ok (.getfield 11, 3) := by decide +kernel
theorem dX1_nearestVisit_72 : decode cX1_nearestVisit 72 = .ok (.iload_n 1, 1) := by decide +kernel
theorem dX1_nearestVisit_73 : decode cX1_nearestVisit 73 = .ok (.bipush 20, 2) := by decide +kernel
theorem dX1_nearestVisit_75 : decode cX1_nearestVisit 75 = .ok (.imul, 1) := by decide +kernel
theorem dX1_nearestVisit_76 : decode cX1_nearestVisit 76 = .ok (.iload 10, 2) := by decide +kernel
theorem dX1_nearestVisit_78 : decode cX1_nearestVisit 78 = .ok (.iadd, 1) := by decide +kernel
theorem dX1_nearestVisit_79 : decode cX1_nearestVisit 79 = .ok (.iaload, 1) := by decide +kernel
theorem dX1_nearestVisit_80 : decode cX1_nearestVisit 80 = .ok (.istore 8, 2) := by decide +kernel
theorem dX1_nearestVisit_82 : decode cX1_nearestVisit 82 = .ok (.iload 9, 2) := by decide +kernel
theorem dX1_nearestVisit_84 : decode cX1_nearestVisit 84 = .ok (.istore 7, 2) := by decide +kernel
theorem dX1_nearestVisit_86 : decode cX1_nearestVisit 86 = .ok (.iinc 9 1, 3) := by decide +kernel
theorem dX1_nearestVisit_89 : decode cX1_nearestVisit 89 = .ok (.goto (-73), 3) := by decide +kernel
theorem dX1_nearestVisit_92 : decode cX1_nearestVisit 92 = .ok (.iload 7, 2) := by decide +kernel
theorem dX1_nearestVisit_94 : decode cX1_nearestVisit 94 = .ok (.ireturn, 1) := by decide +kernel
theorem dX2_hasPlan_0 : decode cX2_hasPlan 0 = .ok (.iload_n 1, 1) := by decide +kernel
theorem dX2_hasPlan_1 : decode cX2_hasPlan 1 = .ok (.ifCond .lt 23, 3) := by decide +kernel
theorem dX2_hasPlan_4 : decode cX2_hasPlan 4 = .ok (.iload_n 1, 1) := by decide +kernel
theorem dX2_hasPlan_5 : decode cX2_hasPlan 5 = .ok (.bipush 9, 2) := by decide +kernel
theorem dX2_hasPlan_7 : decode cX2_hasPlan 7 = .ok (.if_icmp .ge 17, 3) := by decide +kernel
theorem dX2_hasPlan_10 : decode cX2_hasPlan 10 = .ok (.aload_n 0, 1) := by decide +kernel
theorem dX2_hasPlan_11 : decode cX2_hasPlan 11 = .ok (.getfield 9, 3) := by decide +kernel
theorem dX2_hasPlan_14 : decode cX2_hasPlan 14 = .ok (.iload_n 1, 1) := by decide +kernel
theorem dX2_hasPlan_15 : decode cX2_hasPlan 15 = .ok (.iaload, 1) := by decide +kernel
theorem dX2_hasPlan_16 : decode cX2_hasPlan 16 = .ok (.iconst (-1), 1) := by decide +kernel
theorem dX2_hasPlan_17 : decode cX2_hasPlan 17 = .ok (.if_icmp .eq 7, 3) := by decide +kernel
theorem dX2_hasPlan_20 : decode cX2_hasPlan 20 = .ok (.iconst 1, 1) := by decide +kernel
theorem dX2_hasPlan_21 : decode cX2_hasPlan 21 = .ok (.goto 4, 3) := by decide +kernel
theorem dX2_hasPlan_24 : decode cX2_hasPlan 24 = .ok (.iconst 0, 1) := by decide +kernel
theorem dX2_hasPlan_25 : decode cX2_hasPlan 25 = .ok (.ireturn, 1) := by decide +kernel
theorem dX1_bars_0 : decode cX1_bars 0 = .ok (.aload_n 0, 1) := by decide +kernel
theorem dX1_bars_1 : decode cX1_bars 1 = .ok (.getfield 18, 3) := by decide +kernel
theorem dX1_bars_4 : decode cX1_bars 4 = .ok (.iload_n 1, 1) := by decide +kernel
theorem dX1_bars_5 : decode cX1_bars 5 = .ok (.baload, 1) := by decide +kernel
theorem dX1_bars_6 : decode cX1_bars 6 = .ok (.ifCond .eq 12, 3) := by decide +kernel
theorem dX1_bars_9 : decode cX1_bars 9 = .ok (.iload_n 2, 1) := by decide +kernel
theorem dX1_bars_10 : decode cX1_bars 10 = .ok (.iconst 2, 1) := by decide +kernel
theorem dX1_bars_11 : decode cX1_bars 11 = .ok (.if_icmp .le 7, 3) := by decide +kernel
theorem dX1_bars_14 : decode cX1_bars 14 = .ok (.iconst 1, 1) := by decide +kernel
theorem dX1_bars_15 : decode cX1_bars 15 = .ok (.goto 4, 3) := by decide +kernel
theorem dX1_bars_18 : decode cX1_bars 18 = .ok (.iconst 0, 1) := by decide +kernel
theorem dX1_bars_19 : decode cX1_bars 19 = .ok (.ireturn, 1) := by decide +kernel
theorem dX1_idleFrom_0 : decode cX1_idleFrom 0 = .ok (.iconst 0, 1) := by decide +kernel
theorem dX1_idleFrom_1 : decode cX1_idleFrom 1 = .ok (.istore_n 3, 1) := by decide +kernel
theorem dX1_idleFrom_2 : decode cX1_idleFrom 2 = .ok (.iload_n 3, 1) := by decide +kernel
theorem dX1_idleFrom_3 : decode cX1_idleFrom 3 = .ok (.iload_n 2, 1) := by decide +kernel
theorem dX1_idleFrom_4 : decode cX1_idleFrom 4 = .ok (.if_icmp .ge 30, 3) := by decide +kernel
theorem dX1_idleFrom_7 : decode cX1_idleFrom 7 = .ok (.iload_n 1, 1) := by decide +kernel
theorem dX1_idleFrom_8 : decode cX1_idleFrom 8 = .ok (.iload_n 3, 1) := by decide +kernel
theorem dX1_idleFrom_9 : decode cX1_idleFrom 9 = .ok (.iadd, 1) := by decide +kernel
theorem dX1_idleFrom_10 : decode cX1_idleFrom 10 = .ok (.sipush 240, 3) := by decide +kernel
theorem dX1_idleFrom_13 : decode cX1_idleFrom 13 = .ok (.if_icmp .ge 21, 3) := by decide +kernel
theorem dX1_idleFrom_16 : decode cX1_idleFrom 16 = .ok (.aload_n 0, 1) := by decide +kernel
theorem dX1_idleFrom_17 : decode cX1_idleFrom 17 = .ok (.getfield 31, 3) := by decide +kernel
theorem dX1_idleFrom_20 : decode cX1_idleFrom 20 = .ok (.iload_n 1, 1) := by decide +kernel
theorem dX1_idleFrom_21 : decode cX1_idleFrom 21 = .ok (.iload_n 3, 1) := by decide +kernel
theorem dX1_idleFrom_22 : decode cX1_idleFrom 22 = .ok (.iadd, 1) := by decide +kernel
theorem dX1_idleFrom_23 : decode cX1_idleFrom 23 = .ok (.iaload, 1) := by decide +kernel
theorem dX1_idleFrom_24 : decode cX1_idleFrom 24 = .ok (.iconst (-1), 1) := by decide +kernel
theorem dX1_idleFrom_25 : decode cX1_idleFrom 25 = .ok (.if_icmp .ne 9, 3) := by decide +kernel
theorem dX1_idleFrom_28 : decode cX1_idleFrom 28 = .ok (.iinc 3 1, 3) := by decide +kernel
theorem dX1_idleFrom_31 : decode cX1_idleFrom 31 = .ok (.goto (-29), 3) := by decide +kernel
theorem dX1_idleFrom_34 : decode cX1_idleFrom 34 = .ok (.iload_n 3, 1) := by decide +kernel
theorem dX1_idleFrom_35 : decode cX1_idleFrom 35 = .ok (.ireturn, 1) := by decide +kernel
theorem dX1_deriveDrains_0 : decode cX1_deriveDrains 0 = .ok (.aload_n 0, 1) := by decide +kernel
theorem dX1_deriveDrains_1 : decode cX1_deriveDrains 1 = .ok (.iconst 0, 1) := by decide +kernel
theorem dX1_deriveDrains_2 : decode cX1_deriveDrains 2 = .ok (.putfield 97, 3) := by decide +kernel
theorem dX1_deriveDrains_5 : decode cX1_deriveDrains 5 = .ok (.iconst 0, 1) := by decide +kernel
theorem dX1_deriveDrains_6 : decode cX1_deriveDrains 6 = .ok (.istore_n 2, 1) := by decide +kernel
theorem dX1_deriveDrains_7 : decode cX1_deriveDrains 7 = .ok (.iload_n 2, 1) := by decide +kernel
theorem dX1_deriveDrains_8 : decode cX1_deriveDrains 8 = .ok (.bipush 100, 2) := by decide +kernel
theorem dX1_deriveDrains_10 : decode cX1_deriveDrains 10 = .ok (.if_icmp .ge 102, 3) := by decide +kernel
theorem dX1_deriveDrains_13 : decode cX1_deriveDrains 13 = .ok (.aload_n 0, 1) := by decide +kernel
theorem dX1_deriveDrains_14 : decode cX1_deriveDrains 14 = .ok (.getfield 28, 3) := by decide +kernel
theorem dX1_deriveDrains_17 : decode cX1_deriveDrains 17 = .ok (.iload_n 2, 1) := by decide +kernel
theorem dX1_deriveDrains_18 : decode cX1_deriveDrains 18 = .ok (.iconst 0, 1) := by decide +kernel
theorem dX1_deriveDrains_19 : decode cX1_deriveDrains 19 = .ok (.iastore, 1) := by decide +kernel
theorem dX1_deriveDrains_20 : decode cX1_deriveDrains 20 = .ok (.iconst 0, 1) := by decide +kernel
theorem dX1_deriveDrains_21 : decode cX1_deriveDrains 21 = .ok (.istore_n 3, 1) := by decide +kernel
theorem dX1_deriveDrains_22 : decode cX1_deriveDrains 22 = .ok (.iload_n 3, 1) := by decide +kernel
theorem dX1_deriveDrains_23 : decode cX1_deriveDrains 23 = .ok (.iconst 5, 1) := by decide +kernel
theorem dX1_deriveDrains_24 : decode cX1_deriveDrains 24 = .ok (.if_icmp .ge 41, 3) := by decide +kernel
theorem dX1_deriveDrains_27 : decode cX1_deriveDrains 27 = .ok (.aload_n 1, 1) := by decide +kernel
theorem dX1_deriveDrains_28 : decode cX1_deriveDrains 28 = .ok (.iload_n 2, 1) := by decide +kernel
theorem dX1_deriveDrains_29 : decode cX1_deriveDrains 29 = .ok (.invokevirtual 100, 3) := by decide +kernel
theorem dX1_deriveDrains_32 : decode cX1_deriveDrains 32 = .ok (.ifCond .eq 27, 3) := by decide +kernel
theorem dX1_deriveDrains_35 : decode cX1_deriveDrains 35 = .ok (.aload_n 1, 1) := by decide +kernel
theorem dX1_deriveDrains_36 : decode cX1_deriveDrains 36 = .ok (.iconst 1, 1) := by decide +kernel
theorem dX1_deriveDrains_37 : decode cX1_deriveDrains 37 = .ok (.aload_n 1, 1) := by decide +kernel
theorem dX1_deriveDrains_38 : decode cX1_deriveDrains 38 = .ok (.iload_n 2, 1) := by decide +kernel
theorem dX1_deriveDrains_39 : decode cX1_deriveDrains 39 = .ok (.iload_n 3, 1) := by decide +kernel
theorem dX1_deriveDrains_40 : decode cX1_deriveDrains 40 = .ok (.invokevirtual 94, 3) := by decide +kernel
theorem dX1_deriveDrains_43 : decode cX1_deriveDrains 43 = .ok (.invokevirtual 90, 3) := by decide +kernel
theorem dX1_deriveDrains_46 : decode cX1_deriveDrains 46 = .ok (.ifCond .eq 13, 3) := by decide +kernel
theorem dX1_deriveDrains_49 : decode cX1_deriveDrains 49 = .ok (.aload_n 0, 1) := by decide +kernel
theorem dX1_deriveDrains_50 : decode cX1_deriveDrains 50 = .ok (.getfield 28, 3) := by decide +kernel
theorem dX1_deriveDrains_53 : decode cX1_deriveDrains 53 = .ok (.iload_n 2, 1) := by decide +kernel
theorem dX1_deriveDrains_54 : decode cX1_deriveDrains 54 = .ok (.dup2, 1) := by decide +kernel
theorem dX1_deriveDrains_55 : decode cX1_deriveDrains 55 = .ok (.iaload, 1) := by decide +kernel
theorem dX1_deriveDrains_56 : decode cX1_deriveDrains 56 = .ok (.iconst 1, 1) := by decide +kernel
theorem dX1_deriveDrains_57 : decode cX1_deriveDrains 57 = .ok (.iadd, 1) := by decide +kernel
theorem dX1_deriveDrains_58 : decode cX1_deriveDrains 58 = .ok (.iastore, 1) := by decide +kernel
theorem dX1_deriveDrains_59 : decode cX1_deriveDrains 59 = .ok (.iinc 3 1, 3) := by decide +kernel
theorem dX1_deriveDrains_62 : decode cX1_deriveDrains 62 = .ok (.goto (-40), 3) := by decide +kernel
theorem dX1_deriveDrains_65 : decode cX1_deriveDrains 65 = .ok (.aload_n 0, 1) := by decide +kernel
theorem dX1_deriveDrains_66 : decode cX1_deriveDrains 66 = .ok (.getfield 28, 3) := by decide +kernel
theorem dX1_deriveDrains_69 : decode cX1_deriveDrains 69 = .ok (.iload_n 2, 1) := by decide +kernel
theorem dX1_deriveDrains_70 : decode cX1_deriveDrains 70 = .ok (.iaload, 1) := by decide +kernel
theorem dX1_deriveDrains_71 : decode cX1_deriveDrains 71 = .ok (.ifCond .le 35, 3) := by decide +kernel
theorem dX1_deriveDrains_74 : decode cX1_deriveDrains 74 = .ok (.aload_n 0, 1) := by decide +kernel
theorem dX1_deriveDrains_75 : decode cX1_deriveDrains 75 = .ok (.getfield 97, 3) := by decide +kernel
theorem dX1_deriveDrains_78 : decode cX1_deriveDrains 78 = .ok (.aload_n 0, 1) := by decide +kernel
theorem dX1_deriveDrains_79 : decode cX1_deriveDrains 79 = .ok (.getfield 25, 3) := by decide +kernel
theorem dX1_deriveDrains_82 : decode cX1_deriveDrains 82 = .ok (.arraylength, 1) := by decide +kernel
theorem dX1_deriveDrains_83 : decode cX1_deriveDrains 83 = .ok (.if_icmp .ge 23, 3) := by decide +kernel
theorem dX1_deriveDrains_86 : decode cX1_deriveDrains 86 = .ok (.aload_n 0, 1) := by decide +kernel
theorem dX1_deriveDrains_87 : decode cX1_deriveDrains 87 = .ok (.getfield 25, 3) := by decide +kernel
theorem dX1_deriveDrains_90 : decode cX1_deriveDrains 90 = .ok (.aload_n 0, 1) := by decide +kernel
theorem dX1_deriveDrains_91 : decode cX1_deriveDrains 91 = .ok (.getfield 97, 3) := by decide +kernel
theorem dX1_deriveDrains_94 : decode cX1_deriveDrains 94 = .ok (.iload_n 2, 1) := by decide +kernel
theorem dX1_deriveDrains_95 : decode cX1_deriveDrains 95 = .ok (.iastore, 1) := by decide +kernel
theorem dX1_deriveDrains_96 : decode cX1_deriveDrains 96 = .ok (.aload_n 0, 1) := by decide +kernel
theorem dX1_deriveDrains_97 : decode cX1_deriveDrains 97 = .ok (.dup, 1) := by decide +kernel
theorem dX1_deriveDrains_98 : decode cX1_deriveDrains 98 = .ok (.getfield 97, 3) := by decide +kernel
theorem dX1_deriveDrains_101 : decode cX1_deriveDrains 101 = .ok (.iconst 1, 1) := by decide +kernel
theorem dX1_deriveDrains_102 : decode cX1_deriveDrains 102 = .ok (.iadd, 1) := by decide +kernel
theorem dX1_deriveDrains_103 : decode cX1_deriveDrains 103 = .ok (.putfield 97, 3) := by decide +kernel
theorem dX1_deriveDrains_106 : decode cX1_deriveDrains 106 = .ok (.iinc 2 1, 3) := by decide +kernel
theorem dX1_deriveDrains_109 : decode cX1_deriveDrains 109 = .ok (.goto (-102), 3) := by decide +kernel
theorem dX1_deriveDrains_112 : decode cX1_deriveDrains 112 = .ok (.return_, 1) := by decide +kernel
theorem dX1_isThere_0 : decode cX1_isThere 0 = .ok (.iload_n 1, 1) := by decide +kernel
theorem dX1_isThere_1 : decode cX1_isThere 1 = .ok (.iload_n 2, 1) := by decide +kernel
theorem dX1_isThere_2 : decode cX1_isThere 2 = .ok (.if_icmp .gt 21, 3) := by decide +kernel
theorem dX1_isThere_5 : decode cX1_isThere 5 = .ok (.iload_n 2, 1) := by decide +kernel
theorem dX1_isThere_6 : decode cX1_isThere 6 = .ok (.iload_n 1, 1) := by decide +kernel
theorem dX1_isThere_7 : decode cX1_isThere 7 = .ok (.iconst 4, 1) := by decide +kernel
theorem dX1_isThere_8 : decode cX1_isThere 8 = .ok (.iadd, 1) := by decide +kernel
theorem dX1_isThere_9 : decode cX1_isThere 9 = .ok (.if_icmp .ge 14, 3) := by decide +kernel
theorem dX1_isThere_12 : decode cX1_isThere 12 = .ok (.iload_n 2, 1) := by decide +kernel
theorem dX1_isThere_13 : decode cX1_isThere 13 = .ok (.sipush 240, 3) := by decide +kernel
theorem dX1_isThere_16 : decode cX1_isThere 16 = .ok (.if_icmp .ge 7, 3) := by decide +kernel
theorem dX1_isThere_19 : decode cX1_isThere 19 = .ok (.iconst 1, 1) := by decide +kernel
theorem dX1_isThere_20 : decode cX1_isThere 20 = .ok (.goto 4, 3) := by decide +kernel
theorem dX1_isThere_23 : decode cX1_isThere 23 = .ok (.iconst 0, 1) := by decide +kernel
theorem dX1_isThere_24 : decode cX1_isThere 24 = .ok (.ireturn, 1) := by decide +kernel
theorem dX1_deriveVisits_0 : decode cX1_deriveVisits 0 = .ok (.iconst 0, 1) := by decide +kernel
theorem dX1_deriveVisits_1 : decode cX1_deriveVisits 1 = .ok (.istore_n 2, 1) := by decide +kernel
theorem dX1_deriveVisits_2 : decode cX1_deriveVisits 2 = .ok (.aload_n 0, 1) := by decide +kernel
theorem dX1_deriveVisits_3 : decode cX1_deriveVisits 3 = .ok (.iconst 0, 1) := by decide +kernel
theorem dX1_deriveVisits_4 : decode cX1_deriveVisits 4 = .ok (.putfield 104, 3) := by decide +kernel
theorem dX1_deriveVisits_7 : decode cX1_deriveVisits 7 = .ok (.iconst 0, 1) := by decide +kernel
theorem dX1_deriveVisits_8 : decode cX1_deriveVisits 8 = .ok (.istore_n 3, 1) := by decide +kernel
theorem dX1_deriveVisits_9 : decode cX1_deriveVisits 9 = .ok (.iload_n 3, 1) := by decide +kernel
theorem dX1_deriveVisits_10 : decode cX1_deriveVisits 10 = .ok (.sipush 240, 3) := by decide +kernel
theorem dX1_deriveVisits_13 : decode cX1_deriveVisits 13 = .ok (.if_icmp .ge 135, 3) := by decide +kernel
theorem dX1_deriveVisits_16 : decode cX1_deriveVisits 16 = .ok (.iload_n 2, 1) := by decide +kernel
theorem dX1_deriveVisits_17 : decode cX1_deriveVisits 17 = .ok (.istore 4, 2) := by decide +kernel
theorem dX1_deriveVisits_19 : decode cX1_deriveVisits 19 = .ok (.iconst 0, 1) := by decide +kernel
theorem dX1_deriveVisits_20 : decode cX1_deriveVisits 20 = .ok (.istore 5, 2) := by decide +kernel
theorem dX1_deriveVisits_22 : decode cX1_deriveVisits 22 = .ok (.iload 5, 2) := by decide +kernel
theorem dX1_deriveVisits_24 : decode cX1_deriveVisits 24 = .ok (.aload_n 1, 1) := by decide +kernel
theorem dX1_deriveVisits_25 : decode cX1_deriveVisits 25 = .ok (.getfield 65, 3) := by decide +kernel
theorem dX1_deriveVisits_28 : decode cX1_deriveVisits 28 = .ok (.if_icmp .ge 41, 3) := by decide +kernel
theorem dX1_deriveVisits_31 : decode cX1_deriveVisits 31 = .ok (.aload_n 0, 1) := by decide +kernel
theorem dX1_deriveVisits_32 : decode cX1_deriveVisits 32 = .ok (.aload_n 1, 1) := by decide +kernel
theorem dX1_deriveVisits_33 : decode cX1_deriveVisits 33 = .ok (.getfield 107, 3) := by decide +kernel
theorem dX1_deriveVisits_36 : decode cX1_deriveVisits 36 = .ok (.iload 5, 2) := by decide +kernel
theorem dX1_deriveVisits_38 : decode cX1_deriveVisits 38 = .ok (.iaload, 1) := by decide +kernel
theorem dX1_deriveVisits_39 : decode cX1_deriveVisits 39 = .ok (.iload_n 3, 1) := by decide +kernel
theorem dX1_deriveVisits_40 : decode cX1_deriveVisits 40 = .ok (.invokevirtual 110, 3) := by decide +kernel
theorem dX1_deriveVisits_43 : decode cX1_deriveVisits 43 = .ok (.ifCond .eq 20, 3) := by decide +kernel
theorem dX1_deriveVisits_46 : decode cX1_deriveVisits 46 = .ok (.iload_n 2, 1) := by decide +kernel
theorem dX1_deriveVisits_47 : decode cX1_deriveVisits 47 = .ok (.bipush 80, 2) := by decide +kernel
theorem dX1_deriveVisits_49 : decode cX1_deriveVisits 49 = .ok (.if_icmp .ge 14, 3) := by decide +kernel
theorem dX1_deriveVisits_52 : decode cX1_deriveVisits 52 = .ok (.aload_n 0, 1) := by decide +kernel
theorem dX1_deriveVisits_53 : decode cX1_deriveVisits 53 = .ok (.getfield 40, 3) := by decide +kernel
theorem dX1_deriveVisits_56 : decode cX1_deriveVisits 56 = .ok (.iload_n 2, 1) := by decide +kernel
theorem dX1_deriveVisits_57 : decode cX1_deriveVisits 57 = .ok (.iload 5, 2) := by decide +kernel
theorem dX1_deriveVisits_59 : decode cX1_deriveVisits 59 = .ok (.iastore, 1) := by decide +kernel
theorem dX1_deriveVisits_60 : decode cX1_deriveVisits 60 = .ok (.iinc 2 1, 3) := by decide +kernel
theorem dX1_deriveVisits_63 : decode cX1_deriveVisits 63 = .ok (.iinc 5 1, 3) := by decide +kernel
theorem dX1_deriveVisits_66 : decode cX1_deriveVisits 66 = .ok (.goto (-44), 3) := by decide +kernel
theorem dX1_deriveVisits_69 : decode cX1_deriveVisits 69 = .ok (.aload_n 0, 1) := by decide +kernel
theorem dX1_deriveVisits_70 : decode cX1_deriveVisits 70 = .ok (.getfield 31, 3) := by decide +kernel
theorem dX1_deriveVisits_73 : decode cX1_deriveVisits 73 = .ok (.iload_n 3, 1) := by decide +kernel
theorem dX1_deriveVisits_74 : decode cX1_deriveVisits 74 = .ok (.iconst (-1), 1) := by decide +kernel
theorem dX1_deriveVisits_75 : decode cX1_deriveVisits 75 = .ok (.iastore, 1) := by decide +kernel
theorem dX1_deriveVisits_76 : decode cX1_deriveVisits 76 = .ok (.iload_n 2, 1) := by decide +kernel
theorem dX1_deriveVisits_77 : decode cX1_deriveVisits 77 = .ok (.iload 4, 2) := by decide +kernel
theorem dX1_deriveVisits_79 : decode cX1_deriveVisits 79 = .ok (.if_icmp .le 63, 3) := by decide +kernel
theorem dX1_deriveVisits_82 : decode cX1_deriveVisits 82 = .ok (.aload_n 0, 1) := by decide +kernel
theorem dX1_deriveVisits_83 : decode cX1_deriveVisits 83 = .ok (.getfield 104, 3) := by decide +kernel
theorem dX1_deriveVisits_86 : decode cX1_deriveVisits 86 = .ok (.bipush 80, 2) := by decide +kernel
theorem dX1_deriveVisits_88 : decode cX1_deriveVisits 88 = .ok (.if_icmp .ge 54, 3) := by decide +kernel
theorem dX1_deriveVisits_91 : decode cX1_deriveVisits 91 = .ok (.aload_n 0, 1) := by decide +kernel
theorem dX1_deriveVisits_92 : decode cX1_deriveVisits 92 = .ok (.getfield 31, 3) := by decide +kernel
theorem dX1_deriveVisits_95 : decode cX1_deriveVisits 95 = .ok (.iload_n 3, 1) := by decide +kernel
theorem dX1_deriveVisits_96 : decode cX1_deriveVisits 96 = .ok (.aload_n 0, 1) := by decide +kernel
theorem dX1_deriveVisits_97 : decode cX1_deriveVisits 97 = .ok (.getfield 104, 3) := by decide +kernel
theorem dX1_deriveVisits_100 : decode cX1_deriveVisits 100 = .ok (.iastore, 1) := by decide +kernel
theorem dX1_deriveVisits_101 : decode cX1_deriveVisits 101 = .ok (.aload_n 0, 1) := by decide +kernel
theorem dX1_deriveVisits_102 : decode cX1_deriveVisits 102 = .ok (.getfield 34, 3) := by decide +kernel
theorem dX1_deriveVisits_105 : decode cX1_deriveVisits 105 = .ok (.aload_n 0, 1) := by decide +kernel
theorem dX1_deriveVisits_106 : decode cX1_deriveVisits 106 = .ok (.getfield 104, 3) := by decide +kernel
theorem dX1_deriveVisits_109 : decode cX1_deriveVisits 109 = .ok (.iload_n 3, 1) := by decide +kernel
theorem dX1_deriveVisits_110 : decode cX1_deriveVisits 110 = .ok (.iastore, 1) := by decide +kernel
theorem dX1_deriveVisits_111 : decode cX1_deriveVisits 111 = .ok (.aload_n 0, 1) := by decide +kernel
theorem dX1_deriveVisits_112 : decode cX1_deriveVisits 112 = .ok (.getfield 37, 3) := by decide +kernel
theorem dX1_deriveVisits_115 : decode cX1_deriveVisits 115 = .ok (.aload_n 0, 1) := by decide +kernel
theorem dX1_deriveVisits_116 : decode cX1_deriveVisits 116 = .ok (.getfield 104, 3) := by decide +kernel
theorem dX1_deriveVisits_119 : decode cX1_deriveVisits 119 = .ok (.iload 4, 2) := by decide +kernel
theorem dX1_deriveVisits_121 : decode cX1_deriveVisits 121 = .ok (.iastore, 1) := by decide +kernel
theorem dX1_deriveVisits_122 : decode cX1_deriveVisits 122 = .ok (.aload_n 0, 1) := by decide +kernel
theorem dX1_deriveVisits_123 : decode cX1_deriveVisits 123 = .ok (.dup, 1) := by decide +kernel
theorem dX1_deriveVisits_124 : decode cX1_deriveVisits 124 = .ok (.getfield 104, 3) := by decide +kernel
theorem dX1_deriveVisits_127 : decode cX1_deriveVisits 127 = .ok (.iconst 1, 1) := by decide +kernel
theorem dX1_deriveVisits_128 : decode cX1_deriveVisits 128 = .ok (.iadd, 1) := by decide +kernel
theorem dX1_deriveVisits_129 : decode cX1_deriveVisits 129 = .ok (.putfield 104, 3) := by decide +kernel
theorem dX1_deriveVisits_132 : decode cX1_deriveVisits 132 = .ok (.aload_n 0, 1) := by decide +kernel
theorem dX1_deriveVisits_133 : decode cX1_deriveVisits 133 = .ok (.getfield 37, 3) := by decide +kernel
theorem dX1_deriveVisits_136 : decode cX1_deriveVisits 136 = .ok (.aload_n 0, 1) := by decide +kernel
theorem dX1_deriveVisits_137 : decode cX1_deriveVisits 137 = .ok (.getfield 104, 3) := by decide +kernel
theorem dX1_deriveVisits_140 : decode cX1_deriveVisits 140 = .ok (.iload_n 2, 1) := by decide +kernel
theorem dX1_deriveVisits_141 : decode cX1_deriveVisits 141 = .ok (.iastore, 1) := by decide +kernel
theorem dX1_deriveVisits_142 : decode cX1_deriveVisits 142 = .ok (.iinc 3 1, 3) := by decide +kernel
theorem dX1_deriveVisits_145 : decode cX1_deriveVisits 145 = .ok (.goto (-136), 3) := by decide +kernel
theorem dX1_deriveVisits_148 : decode cX1_deriveVisits 148 = .ok (.return_, 1) := by decide +kernel
theorem dX1_measureFrom_0 : decode cX1_measureFrom 0 = .ok (.iconst 0, 1) := by decide +kernel
theorem dX1_measureFrom_1 : decode cX1_measureFrom 1 = .ok (.istore 4, 2) := by decide +kernel
theorem dX1_measureFrom_3 : decode cX1_measureFrom 3 = .ok (.iload 4, 2) := by decide +kernel
theorem dX1_measureFrom_5 : decode cX1_measureFrom 5 = .ok (.aload_n 1, 1) := by decide +kernel
theorem dX1_measureFrom_6 : decode cX1_measureFrom 6 = .ok (.getfield 65, 3) := by decide +kernel
theorem dX1_measureFrom_9 : decode cX1_measureFrom 9 = .ok (.if_icmp .ge 32, 3) := by decide +kernel
theorem dX1_measureFrom_12 : decode cX1_measureFrom 12 = .ok (.aload_n 0, 1) := by decide +kernel
theorem dX1_measureFrom_13 : decode cX1_measureFrom 13 = .ok (.getfield 11, 3) := by decide +kernel
theorem dX1_measureFrom_16 : decode cX1_measureFrom 16 = .ok (.iload_n 2, 1) := by decide +kernel
theorem dX1_measureFrom_17 : decode cX1_measureFrom 17 = .ok (.bipush 20, 2) := by decide +kernel
theorem dX1_measureFrom_19 : decode cX1_measureFrom 19 = .ok (.imul, 1) := by decide +kernel
theorem dX1_measureFrom_20 : decode cX1_measureFrom 20 = .ok (.iload 4, 2) := by decide +kernel
theorem dX1_measureFrom_22 : decode cX1_measureFrom 22 = .ok (.iadd, 1) := by decide +kernel
theorem dX1_measureFrom_23 : decode cX1_measureFrom 23 = .ok (.iload_n 3, 1) := by decide +kernel
theorem dX1_measureFrom_24 : decode cX1_measureFrom 24 = .ok (.aload_n 1, 1) := by decide +kernel
theorem dX1_measureFrom_25 : decode cX1_measureFrom 25 = .ok (.getfield 68, 3) := by decide +kernel
theorem dX1_measureFrom_28 : decode cX1_measureFrom 28 = .ok (.iload 4, 2) := by decide +kernel
theorem dX1_measureFrom_30 : decode cX1_measureFrom 30 = .ok (.iaload, 1) := by decide +kernel
theorem dX1_measureFrom_31 : decode cX1_measureFrom 31 = .ok (.invokestatic 86, 3) := by decide +kernel
theorem dX1_measureFrom_34 : decode cX1_measureFrom 34 = .ok (.iastore, 1) := by decide +kernel
theorem dX1_measureFrom_35 : decode cX1_measureFrom 35 = .ok (.iinc 4 1, 3) := by decide +kernel
theorem dX1_measureFrom_38 : decode cX1_measureFrom 38 = .ok (.goto (-35), 3) := by decide +kernel
theorem dX1_measureFrom_41 : decode cX1_measureFrom 41 = .ok (.aload_n 0, 1) := by decide +kernel
theorem dX1_measureFrom_42 : decode cX1_measureFrom 42 = .ok (.getfield 15, 3) := by decide +kernel
theorem dX1_measureFrom_45 : decode cX1_measureFrom 45 = .ok (.iload_n 2, 1) := by decide +kernel
theorem dX1_measureFrom_46 : decode cX1_measureFrom 46 = .ok (.iconst 0, 1) := by decide +kernel
theorem dX1_measureFrom_47 : decode cX1_measureFrom 47 = .ok (.iastore, 1) := by decide +kernel
theorem dX1_measureFrom_48 : decode cX1_measureFrom 48 = .ok (.iconst 0, 1) := by decide +kernel
theorem dX1_measureFrom_49 : decode cX1_measureFrom 49 = .ok (.istore 4, 2) := by decide +kernel
theorem dX1_measureFrom_51 : decode cX1_measureFrom 51 = .ok (.iload 4, 2) := by decide +kernel
theorem dX1_measureFrom_53 : decode cX1_measureFrom 53 = .ok (.bipush 100, 2) := by decide +kernel
theorem dX1_measureFrom_55 : decode cX1_measureFrom 55 = .ok (.if_icmp .ge 39, 3) := by decide +kernel
theorem dX1_measureFrom_58 : decode cX1_measureFrom 58 = .ok (.aload_n 1, 1) := by decide +kernel
theorem dX1_measureFrom_59 : decode cX1_measureFrom 59 = .ok (.iconst 2, 1) := by decide +kernel
theorem dX1_measureFrom_60 : decode cX1_measureFrom 60 = .ok (.iload 4, 2) := by decide +kernel
theorem dX1_measureFrom_62 : decode cX1_measureFrom 62 = .ok (.invokevirtual 90, 3) := by decide +kernel
theorem dX1_measureFrom_65 : decode cX1_measureFrom 65 = .ok (.ifCond .eq 23, 3) := by decide +kernel
theorem dX1_measureFrom_68 : decode cX1_measureFrom 68 = .ok (.iload_n 3, 1) := by decide +kernel
theorem dX1_measureFrom_69 : decode cX1_measureFrom 69 = .ok (.iload 4, 2) := by decide +kernel
theorem dX1_measureFrom_71 : decode cX1_measureFrom 71 = .ok (.invokestatic 86, 3) := by decide +kernel
theorem dX1_measureFrom_74 : decode cX1_measureFrom 74 = .ok (.iconst 4, 1) := by decide +kernel
theorem dX1_measureFrom_75 : decode cX1_measureFrom 75 = .ok (.if_icmp .gt 13, 3) := by decide +kernel
theorem dX1_measureFrom_78 : decode cX1_measureFrom 78 = .ok (.aload_n 0, 1) := by decide +kernel
theorem dX1_measureFrom_79 : decode cX1_measureFrom 79 = .ok (.getfield 15, 3) := by decide +kernel
theorem dX1_measureFrom_82 : decode cX1_measureFrom 82 = .ok (.iload_n 2, 1) := by decide +kernel
theorem dX1_measureFrom_83 : decode cX1_measureFrom 83 = .ok (.dup2, 1) := by decide +kernel
theorem dX1_measureFrom_84 : decode cX1_measureFrom 84 = .ok (.iaload, 1) := by decide +kernel
theorem dX1_measureFrom_85 : decode cX1_measureFrom 85 = .ok (.iconst 1, 1) := by decide +kernel
theorem dX1_measureFrom_86 : decode cX1_measureFrom 86 = .ok (.iadd, 1) := by decide +kernel
theorem dX1_measureFrom_87 : decode cX1_measureFrom 87 = .ok (.iastore, 1) := by decide +kernel
theorem dX1_measureFrom_88 : decode cX1_measureFrom 88 = .ok (.iinc 4 1, 3) := by decide +kernel
theorem dX1_measureFrom_91 : decode cX1_measureFrom 91 = .ok (.goto (-40), 3) := by decide +kernel
theorem dX1_measureFrom_94 : decode cX1_measureFrom 94 = .ok (.return_, 1) := by decide +kernel
theorem dX1_nearCap_0 : decode cX1_nearCap 0 = .ok (.iconst 0, 1) := by decide +kernel
theorem dX1_nearCap_1 : decode cX1_nearCap 1 = .ok (.istore_n 2, 1) := by decide +kernel
theorem dX1_nearCap_2 : decode cX1_nearCap 2 = .ok (.iload_n 2, 1) := by decide +kernel
theorem dX1_nearCap_3 : decode cX1_nearCap 3 = .ok (.iconst 5, 1) := by decide +kernel
theorem dX1_nearCap_4 : decode cX1_nearCap 4 = .ok (.if_icmp .ge 25, 3) := by decide +kernel
theorem dX1_nearCap_7 : decode cX1_nearCap 7 = .ok (.aload_n 0, 1) := by decide +kernel
theorem dX1_nearCap_8 : decode cX1_nearCap 8 = .ok (.iconst 0, 1) := by decide +kernel
theorem dX1_nearCap_9 : decode cX1_nearCap 9 = .ok (.aload_n 0, 1) := by decide +kernel
theorem dX1_nearCap_10 : decode cX1_nearCap 10 = .ok (.iload_n 1, 1) := by decide +kernel
theorem dX1_nearCap_11 : decode cX1_nearCap 11 = .ok (.iload_n 2, 1) := by decide +kernel
theorem dX1_nearCap_12 : decode cX1_nearCap 12 = .ok (.invokevirtual 94, 3) := by decide +kernel
theorem dX1_nearCap_15 : decode cX1_nearCap 15 = .ok (.invokevirtual 90, 3) := by decide +kernel
theorem dX1_nearCap_18 : decode cX1_nearCap 18 = .ok (.ifCond .eq 5, 3) := by decide +kernel
theorem dX1_nearCap_21 : decode cX1_nearCap 21 = .ok (.iconst 1, 1) := by decide +kernel
theorem dX1_nearCap_22 : decode cX1_nearCap 22 = .ok (.ireturn, 1) := by decide +kernel
theorem dX1_nearCap_23 : decode cX1_nearCap 23 = .ok (.iinc 2 1, 3) := by decide +kernel
theorem dX1_nearCap_26 : decode cX1_nearCap 26 = .ok (.goto (-24), 3) := by decide +kernel
theorem dX1_nearCap_29 : decode cX1_nearCap 29 = .ok (.iconst 0, 1) := by decide +kernel
theorem dX1_nearCap_30 : decode cX1_nearCap 30 = .ok (.ireturn, 1) := by decide +kernel
theorem dX1_preyOf_0 : decode cX1_preyOf 0 = .ok (.iconst (-1), 1) := by decide +kernel
theorem dX1_preyOf_1 : decode cX1_preyOf 1 = .ok (.istore_n 3, 1) := by decide +kernel
theorem dX1_preyOf_2 : decode cX1_preyOf 2 = .ok (.bipush 7, 2) := by decide +kernel
theorem dX1_preyOf_4 : decode cX1_preyOf 4 = .ok (.istore 4, 2) := by decide +kernel
theorem dX1_preyOf_6 : decode cX1_preyOf 6 = .ok (.iconst 0, 1) := by decide +kernel
theorem dX1_preyOf_7 : decode cX1_preyOf 7 = .ok (.istore 5, 2) := by decide +kernel
theorem dX1_preyOf_9 : decode cX1_preyOf 9 = .ok (.iload 5, 2) := by decide +kernel
theorem dX1_preyOf_11 : decode cX1_preyOf 11 = .ok (.aload_n 1, 1) := by decide +kernel
theorem dX1_preyOf_12 : decode cX1_preyOf 12 = .ok (.getfield 49, 3) := by decide +kernel
theorem dX1_preyOf_15 : decode cX1_preyOf 15 = .ok (.if_icmp .ge 43, 3) := by decide +kernel
theorem dX1_preyOf_18 : decode cX1_preyOf 18 = .ok (.aload_n 0, 1) := by decide +kernel
theorem dX1_preyOf_19 : decode cX1_preyOf 19 = .ok (.getfield 11, 3) := by decide +kernel
theorem dX1_preyOf_22 : decode cX1_preyOf 22 = .ok (.iload 5, 2) := by decide +kernel
theorem dX1_preyOf_24 : decode cX1_preyOf 24 = .ok (.bipush 20, 2) := by decide +kernel
theorem dX1_preyOf_26 : decode cX1_preyOf 26 = .ok (.imul, 1) := by decide +kernel
theorem dX1_preyOf_27 : decode cX1_preyOf 27 = .ok (.iload_n 2, 1) := by decide +kernel
theorem dX1_preyOf_28 : decode cX1_preyOf 28 = .ok (.iadd, 1) := by decide +kernel
theorem dX1_preyOf_29 : decode cX1_preyOf 29 = .ok (.iaload, 1) := by decide +kernel
theorem dX1_preyOf_30 : decode cX1_preyOf 30 = .ok (.iload 4, 2) := by decide +kernel
theorem dX1_preyOf_32 : decode cX1_preyOf 32 = .ok (.if_icmp .ge 20, 3) := by decide +kernel
theorem dX1_preyOf_35 : decode cX1_preyOf 35 = .ok (.aload_n 0, 1) := by decide +kernel
theorem dX1_preyOf_36 : decode cX1_preyOf 36 = .ok (.getfield 11, 3) := by decide +kernel
theorem dX1_preyOf_39 : decode cX1_preyOf 39 = .ok (.iload 5, 2) := by decide +kernel
theorem dX1_preyOf_41 : decode cX1_preyOf 41 = .ok (.bipush 20, 2) := by decide +kernel
theorem dX1_preyOf_43 : decode cX1_preyOf 43 = .ok (.imul, 1) := by decide +kernel
theorem dX1_preyOf_44 : decode cX1_preyOf 44 = .ok (.iload_n 2, 1) := by decide +kernel
theorem dX1_preyOf_45 : decode cX1_preyOf 45 = .ok (.iadd, 1) := by decide +kernel
theorem dX1_preyOf_46 : decode cX1_preyOf 46 = .ok (.iaload, 1) := by decide +kernel
theorem dX1_preyOf_47 : decode cX1_preyOf 47 = .ok (.istore 4, 2) := by decide +kernel
theorem dX1_preyOf_49 : decode cX1_preyOf 49 = .ok (.iload 5, 2) := by decide +kernel
theorem dX1_preyOf_51 : decode cX1_preyOf 51 = .ok (.istore_n 3, 1) := by decide +kernel
theorem dX1_preyOf_52 : decode cX1_preyOf 52 = .ok (.iinc 5 1, 3) := by decide +kernel
theorem dX1_preyOf_55 : decode cX1_preyOf 55 = .ok (.goto (-46), 3) := by decide +kernel
theorem dX1_preyOf_58 : decode cX1_preyOf 58 = .ok (.iload_n 3, 1) := by decide +kernel
theorem dX1_preyOf_59 : decode cX1_preyOf 59 = .ok (.ireturn, 1) := by decide +kernel
theorem dX1_derive_0 : decode cX1_derive 0 = .ok (.iconst 0, 1) := by decide +kernel
theorem dX1_derive_1 : decode cX1_derive 1 = .ok (.istore_n 2, 1) := by decide +kernel
theorem dX1_derive_2 : decode cX1_derive 2 = .ok (.iload_n 2, 1) := by decide +kernel
theorem dX1_derive_3 : decode cX1_derive 3 = .ok (.aload_n 1, 1) := by decide +kernel
theorem dX1_derive_4 : decode cX1_derive 4 = .ok (.getfield 49, 3) := by decide +kernel
theorem dX1_derive_7 : decode cX1_derive 7 = .ok (.if_icmp .ge 55, 3) := by decide +kernel
theorem dX1_derive_10 : decode cX1_derive 10 = .ok (.aload_n 0, 1) := by decide +kernel
theorem dX1_derive_11 : decode cX1_derive 11 = .ok (.aload_n 1, 1) := by decide +kernel
theorem dX1_derive_12 : decode cX1_derive 12 = .ok (.iload_n 2, 1) := by decide +kernel
theorem dX1_derive_13 : decode cX1_derive 13 = .ok (.aload_n 1, 1) := by decide +kernel
theorem dX1_derive_14 : decode cX1_derive 14 = .ok (.getfield 55, 3) := by decide +kernel
theorem dX1_derive_17 : decode cX1_derive 17 = .ok (.iload_n 2, 1) := by decide +kernel
theorem dX1_derive_18 : decode cX1_derive 18 = .ok (.iaload, 1) := by decide +kernel
theorem dX1_derive_19 : decode cX1_derive 19 = .ok (.invokevirtual 58, 3) := by decide +kernel
theorem dX1_derive_22 : decode cX1_derive 22 = .ok (.aload_n 0, 1) := by decide +kernel
theorem dX1_derive_23 : decode cX1_derive 23 = .ok (.aload_n 1, 1) := by decide +kernel
theorem dX1_derive_24 : decode cX1_derive 24 = .ok (.bipush 9, 2) := by decide +kernel
theorem dX1_derive_26 : decode cX1_derive 26 = .ok (.iload_n 2, 1) := by decide +kernel
theorem dX1_derive_27 : decode cX1_derive 27 = .ok (.iadd, 1) := by decide +kernel
theorem dX1_derive_28 : decode cX1_derive 28 = .ok (.aload_n 1, 1) := by decide +kernel
theorem dX1_derive_29 : decode cX1_derive 29 = .ok (.getfield 62, 3) := by decide +kernel
theorem dX1_derive_32 : decode cX1_derive 32 = .ok (.iload_n 2, 1) := by decide +kernel
theorem dX1_derive_33 : decode cX1_derive 33 = .ok (.iaload, 1) := by decide +kernel
theorem dX1_derive_34 : decode cX1_derive 34 = .ok (.iconst (-1), 1) := by decide +kernel
theorem dX1_derive_35 : decode cX1_derive 35 = .ok (.if_icmp .ne 12, 3) := by decide +kernel
theorem dX1_derive_38 : decode cX1_derive 38 = .ok (.aload_n 1, 1) := by decide +kernel
theorem dX1_derive_39 : decode cX1_derive 39 = .ok (.getfield 55, 3) := by decide +kernel
theorem dX1_derive_42 : decode cX1_derive 42 = .ok (.iload_n 2, 1) := by decide +kernel
theorem dX1_derive_43 : decode cX1_derive 43 = .ok (.iaload, 1) := by decide +kernel
theorem dX1_derive_44 : decode cX1_derive 44 = .ok (.goto 9, 3) := by decide +kernel
theorem dX1_derive_47 : decode cX1_derive 47 = .ok (.aload_n 1, 1) := by decide +kernel
theorem dX1_derive_48 : decode cX1_derive 48 = .ok (.getfield 62, 3) := by decide +kernel
theorem dX1_derive_51 : decode cX1_derive 51 = .ok (.iload_n 2, 1) := by decide +kernel
theorem dX1_derive_52 : decode cX1_derive 52 = .ok (.iaload, 1) := by decide +kernel
theorem dX1_derive_53 : decode cX1_derive 53 = .ok (.invokevirtual 58, 3) := by decide +kernel
theorem dX1_derive_56 : decode cX1_derive 56 = .ok (.iinc 2 1, 3) := by decide +kernel
theorem dX1_derive_59 : decode cX1_derive 59 = .ok (.goto (-57), 3) := by decide +kernel
theorem dX1_derive_62 : decode cX1_derive 62 = .ok (.iconst 0, 1) := by decide +kernel
theorem dX1_derive_63 : decode cX1_derive 63 = .ok (.istore_n 2, 1) := by decide +kernel
theorem dX1_derive_64 : decode cX1_derive 64 = .ok (.iload_n 2, 1) := by decide +kernel
theorem dX1_derive_65 : decode cX1_derive 65 = .ok (.aload_n 1, 1) := by decide +kernel
theorem dX1_derive_66 : decode cX1_derive 66 = .ok (.getfield 65, 3) := by decide +kernel
theorem dX1_derive_69 : decode cX1_derive 69 = .ok (.if_icmp .ge 37, 3) := by decide +kernel
theorem dX1_derive_72 : decode cX1_derive 72 = .ok (.aload_n 0, 1) := by decide +kernel
theorem dX1_derive_73 : decode cX1_derive 73 = .ok (.getfield 18, 3) := by decide +kernel
theorem dX1_derive_76 : decode cX1_derive 76 = .ok (.iload_n 2, 1) := by decide +kernel
theorem dX1_derive_77 : decode cX1_derive 77 = .ok (.aload_n 1, 1) := by decide +kernel
theorem dX1_derive_78 : decode cX1_derive 78 = .ok (.aload_n 1, 1) := by decide +kernel
theorem dX1_derive_79 : decode cX1_derive 79 = .ok (.getfield 68, 3) := by decide +kernel
theorem dX1_derive_82 : decode cX1_derive 82 = .ok (.iload_n 2, 1) := by decide +kernel
theorem dX1_derive_83 : decode cX1_derive 83 = .ok (.iaload, 1) := by decide +kernel
theorem dX1_derive_84 : decode cX1_derive 84 = .ok (.invokestatic 71, 3) := by decide +kernel
theorem dX1_derive_87 : decode cX1_derive 87 = .ok (.bastore, 1) := by decide +kernel
theorem dX1_derive_88 : decode cX1_derive 88 = .ok (.aload_n 0, 1) := by decide +kernel
theorem dX1_derive_89 : decode cX1_derive 89 = .ok (.getfield 22, 3) := by decide +kernel
theorem dX1_derive_92 : decode cX1_derive 92 = .ok (.iload_n 2, 1) := by decide +kernel
theorem dX1_derive_93 : decode cX1_derive 93 = .ok (.aload_n 0, 1) := by decide +kernel
theorem dX1_derive_94 : decode cX1_derive 94 = .ok (.aload_n 1, 1) := by decide +kernel
theorem dX1_derive_95 : decode cX1_derive 95 = .ok (.iload_n 2, 1) := by decide +kernel
theorem dX1_derive_96 : decode cX1_derive 96 = .ok (.invokevirtual 75, 3) := by decide +kernel
theorem dX1_derive_99 : decode cX1_derive 99 = .ok (.iastore, 1) := by decide +kernel
theorem dX1_derive_100 : decode cX1_derive 100 = .ok (.iinc 2 1, 3) := by decide +kernel
theorem dX1_derive_103 : decode cX1_derive 103 = .ok (.goto (-39), 3) := by decide +kernel
theorem dX1_derive_106 : decode cX1_derive 106 = .ok (.aload_n 0, 1) := by decide +kernel
theorem dX1_derive_107 : decode cX1_derive 107 = .ok (.aload_n 1, 1) := by decide +kernel
theorem dX1_derive_108 : decode cX1_derive 108 = .ok (.invokevirtual 79, 3) := by decide +kernel
theorem dX1_derive_111 : decode cX1_derive 111 = .ok (.aload_n 0, 1) := by decide +kernel
theorem dX1_derive_112 : decode cX1_derive 112 = .ok (.aload_n 1, 1) := by decide +kernel
theorem dX1_derive_113 : decode cX1_derive 113 = .ok (.invokevirtual 83, 3) := by decide +kernel
theorem dX1_derive_116 : decode cX1_derive 116 = .ok (.return_, 1) := by decide +kernel
theorem dX2_empty_0 : decode cX2_empty 0 = .ok (.aload_n 0, 1) := by decide +kernel
theorem dX2_empty_1 : decode cX2_empty 1 = .ok (.iconst 0, 1) := by decide +kernel
theorem dX2_empty_2 : decode cX2_empty 2 = .ok (.putfield 24, 3) := by decide +kernel
theorem dX2_empty_5 : decode cX2_empty 5 = .ok (.aload_n 0, 1) := by decide +kernel
theorem dX2_empty_6 : decode cX2_empty 6 = .ok (.getfield 9, 3) := by decide +kernel
theorem dX2_empty_9 : decode cX2_empty 9 = .ok (.iconst (-1), 1) := by decide +kernel
theorem dX2_empty_10 : decode cX2_empty 10 = .ok (.invokestatic 28, 3) := by decide +kernel
theorem dX2_empty_13 : decode cX2_empty 13 = .ok (.aload_n 0, 1) := by decide +kernel
theorem dX2_empty_14 : decode cX2_empty 14 = .ok (.getfield 15, 3) := by decide +kernel
theorem dX2_empty_17 : decode cX2_empty 17 = .ok (.iconst (-1), 1) := by decide +kernel
theorem dX2_empty_18 : decode cX2_empty 18 = .ok (.invokestatic 28, 3) := by decide +kernel
theorem dX2_empty_21 : decode cX2_empty 21 = .ok (.aload_n 0, 1) := by decide +kernel
theorem dX2_empty_22 : decode cX2_empty 22 = .ok (.getfield 18, 3) := by decide +kernel
theorem dX2_empty_25 : decode cX2_empty 25 = .ok (.iconst (-1), 1) := by decide +kernel
theorem dX2_empty_26 : decode cX2_empty 26 = .ok (.invokestatic 28, 3) := by decide +kernel
theorem dX2_empty_29 : decode cX2_empty 29 = .ok (.return_, 1) := by decide +kernel
theorem dX2_forget_0 : decode cX2_forget 0 = .ok (.aload_n 0, 1) := by decide +kernel
theorem dX2_forget_1 : decode cX2_forget 1 = .ok (.invokevirtual 21, 3) := by decide +kernel
theorem dX2_forget_4 : decode cX2_forget 4 = .ok (.return_, 1) := by decide +kernel
theorem dX2_takeFrom_0 : decode cX2_takeFrom 0 = .ok (.aload_n 0, 1) := by decide +kernel
theorem dX2_takeFrom_1 : decode cX2_takeFrom 1 = .ok (.aload_n 1, 1) := by decide +kernel
theorem dX2_takeFrom_2 : decode cX2_takeFrom 2 = .ok (.getfield 24, 3) := by decide +kernel
theorem dX2_takeFrom_5 : decode cX2_takeFrom 5 = .ok (.putfield 24, 3) := by decide +kernel
theorem dX2_takeFrom_8 : decode cX2_takeFrom 8 = .ok (.aload_n 1, 1) := by decide +kernel
theorem dX2_takeFrom_9 : decode cX2_takeFrom 9 = .ok (.getfield 9, 3) := by decide +kernel
theorem dX2_takeFrom_12 : decode cX2_takeFrom 12 = .ok (.aload_n 0, 1) := by decide +kernel
theorem dX2_takeFrom_13 : decode cX2_takeFrom 13 = .ok (.getfield 9, 3) := by decide +kernel
theorem dX2_takeFrom_16 : decode cX2_takeFrom 16 = .ok (.invokestatic 34, 3) := by decide +kernel
theorem dX2_takeFrom_19 : decode cX2_takeFrom 19 = .ok (.aload_n 1, 1) := by decide +kernel
theorem dX2_takeFrom_20 : decode cX2_takeFrom 20 = .ok (.getfield 15, 3) := by decide +kernel
theorem dX2_takeFrom_23 : decode cX2_takeFrom 23 = .ok (.aload_n 0, 1) := by decide +kernel
theorem dX2_takeFrom_24 : decode cX2_takeFrom 24 = .ok (.getfield 15, 3) := by decide +kernel
theorem dX2_takeFrom_27 : decode cX2_takeFrom 27 = .ok (.invokestatic 34, 3) := by decide +kernel
theorem dX2_takeFrom_30 : decode cX2_takeFrom 30 = .ok (.aload_n 1, 1) := by decide +kernel
theorem dX2_takeFrom_31 : decode cX2_takeFrom 31 = .ok (.getfield 18, 3) := by decide +kernel
theorem dX2_takeFrom_34 : decode cX2_takeFrom 34 = .ok (.aload_n 0, 1) := by decide +kernel
theorem dX2_takeFrom_35 : decode cX2_takeFrom 35 = .ok (.getfield 18, 3) := by decide +kernel
theorem dX2_takeFrom_38 : decode cX2_takeFrom 38 = .ok (.invokestatic 34, 3) := by decide +kernel
theorem dX2_takeFrom_41 : decode cX2_takeFrom 41 = .ok (.return_, 1) := by decide +kernel
theorem dX2_readPlan_0 : decode cX2_readPlan 0 = .ok (.aload_n 1, 1) := by decide +kernel
theorem dX2_readPlan_1 : decode cX2_readPlan 1 = .ok (.invokevirtual 55, 3) := by decide +kernel
theorem dX2_readPlan_4 : decode cX2_readPlan 4 = .ok (.ifCond .ne 9, 3) := by decide +kernel
theorem dX2_readPlan_7 : decode cX2_readPlan 7 = .ok (.aload_n 1, 1) := by decide +kernel
theorem dX2_readPlan_8 : decode cX2_readPlan 8 = .ok (.iconst 1, 1) := by decide +kernel
theorem dX2_readPlan_9 : decode cX2_readPlan 9 = .ok (.invokevirtual 59, 3) := by decide +kernel
theorem dX2_readPlan_12 : decode cX2_readPlan 12 = .ok (.ireturn, 1) := by decide +kernel
theorem dX2_readPlan_13 : decode cX2_readPlan 13 = .ok (.aload_n 2, 1) := by decide +kernel
theorem dX2_readPlan_14 : decode cX2_readPlan 14 = .ok (.aload_n 1, 1) := by decide +kernel
theorem dX2_readPlan_15 : decode cX2_readPlan 15 = .ok (.getfield 62, 3) := by decide +kernel
theorem dX2_readPlan_18 : decode cX2_readPlan 18 = .ok (.invokevirtual 66, 3) := by decide +kernel
theorem dX2_readPlan_21 : decode cX2_readPlan 21 = .ok (.istore_n 3, 1) := by decide +kernel
theorem dX2_readPlan_22 : decode cX2_readPlan 22 = .ok (.iload_n 3, 1) := by decide +kernel
theorem dX2_readPlan_23 : decode cX2_readPlan 23 = .ok (.iconst (-1), 1) := by decide +kernel
theorem dX2_readPlan_24 : decode cX2_readPlan 24 = .ok (.if_icmp .eq 11, 3) := by decide +kernel
theorem dX2_readPlan_27 : decode cX2_readPlan 27 = .ok (.aload_n 0, 1) := by decide +kernel
theorem dX2_readPlan_28 : decode cX2_readPlan 28 = .ok (.iload_n 3, 1) := by decide +kernel
theorem dX2_readPlan_29 : decode cX2_readPlan 29 = .ok (.invokevirtual 72, 3) := by decide +kernel
theorem dX2_readPlan_32 : decode cX2_readPlan 32 = .ok (.ifCond .eq 9, 3) := by decide +kernel
theorem dX2_readPlan_35 : decode cX2_readPlan 35 = .ok (.aload_n 1, 1) := by decide +kernel
theorem dX2_readPlan_36 : decode cX2_readPlan 36 = .ok (.iconst 3, 1) := by decide +kernel
theorem dX2_readPlan_37 : decode cX2_readPlan 37 = .ok (.invokevirtual 59, 3) := by decide +kernel
theorem dX2_readPlan_40 : decode cX2_readPlan 40 = .ok (.ireturn, 1) := by decide +kernel
theorem dX2_readPlan_41 : decode cX2_readPlan 41 = .ok (.aload_n 1, 1) := by decide +kernel
theorem dX2_readPlan_42 : decode cX2_readPlan 42 = .ok (.invokevirtual 75, 3) := by decide +kernel
theorem dX2_readPlan_45 : decode cX2_readPlan 45 = .ok (.aload_n 1, 1) := by decide +kernel
theorem dX2_readPlan_46 : decode cX2_readPlan 46 = .ok (.iconst 0, 1) := by decide +kernel
theorem dX2_readPlan_47 : decode cX2_readPlan 47 = .ok (.bipush 18, 2) := by decide +kernel
theorem dX2_readPlan_49 : decode cX2_readPlan 49 = .ok (.aload_n 0, 1) := by decide +kernel
theorem dX2_readPlan_50 : decode cX2_readPlan 50 = .ok (.getfield 9, 3) := by decide +kernel
theorem dX2_readPlan_53 : decode cX2_readPlan 53 = .ok (.iload_n 3, 1) := by decide +kernel
theorem dX2_readPlan_54 : decode cX2_readPlan 54 = .ok (.invokevirtual 78, 3) := by decide +kernel
theorem dX2_readPlan_57 : decode cX2_readPlan 57 = .ok (.ifCond .eq 18, 3) := by decide +kernel
theorem dX2_readPlan_60 : decode cX2_readPlan 60 = .ok (.aload_n 1, 1) := by decide +kernel
theorem dX2_readPlan_61 : decode cX2_readPlan 61 = .ok (.iconst 0, 1) := by decide +kernel
theorem dX2_readPlan_62 : decode cX2_readPlan 62 = .ok (.bipush 99, 2) := by decide +kernel
theorem dX2_readPlan_64 : decode cX2_readPlan 64 = .ok (.aload_n 0, 1) := by decide +kernel
theorem dX2_readPlan_65 : decode cX2_readPlan 65 = .ok (.getfield 15, 3) := by decide +kernel
theorem dX2_readPlan_68 : decode cX2_readPlan 68 = .ok (.iload_n 3, 1) := by decide +kernel
theorem dX2_readPlan_69 : decode cX2_readPlan 69 = .ok (.invokevirtual 78, 3) := by decide +kernel
theorem dX2_readPlan_72 : decode cX2_readPlan 72 = .ok (.ifCond .ne 5, 3) := by decide +kernel
theorem dX2_readPlan_75 : decode cX2_readPlan 75 = .ok (.iconst 0, 1) := by decide +kernel
theorem dX2_readPlan_76 : decode cX2_readPlan 76 = .ok (.ireturn, 1) := by decide +kernel
theorem dX2_readPlan_77 : decode cX2_readPlan 77 = .ok (.aload_n 0, 1) := by decide +kernel
theorem dX2_readPlan_78 : decode cX2_readPlan 78 = .ok (.getfield 18, 3) := by decide +kernel
theorem dX2_readPlan_81 : decode cX2_readPlan 81 = .ok (.iload_n 3, 1) := by decide +kernel
theorem dX2_readPlan_82 : decode cX2_readPlan 82 = .ok (.aload_n 1, 1) := by decide +kernel
theorem dX2_readPlan_83 : decode cX2_readPlan 83 = .ok (.bipush 8, 2) := by decide +kernel
theorem dX2_readPlan_85 : decode cX2_readPlan 85 = .ok (.invokevirtual 82, 3) := by decide +kernel
theorem dX2_readPlan_88 : decode cX2_readPlan 88 = .ok (.ifCond .eq 7, 3) := by decide +kernel
theorem dX2_readPlan_91 : decode cX2_readPlan 91 = .ok (.iconst 1, 1) := by decide +kernel
theorem dX2_readPlan_92 : decode cX2_readPlan 92 = .ok (.goto 4, 3) := by decide +kernel
theorem dX2_readPlan_95 : decode cX2_readPlan 95 = .ok (.iconst 0, 1) := by decide +kernel
theorem dX2_readPlan_96 : decode cX2_readPlan 96 = .ok (.iastore, 1) := by decide +kernel
theorem dX2_readPlan_97 : decode cX2_readPlan 97 = .ok (.aload_n 0, 1) := by decide +kernel
theorem dX2_readPlan_98 : decode cX2_readPlan 98 = .ok (.getfield 18, 3) := by decide +kernel
theorem dX2_readPlan_101 : decode cX2_readPlan 101 = .ok (.iload_n 3, 1) := by decide +kernel
theorem dX2_readPlan_102 : decode cX2_readPlan 102 = .ok (.iaload, 1) := by decide +kernel
theorem dX2_readPlan_103 : decode cX2_readPlan 103 = .ok (.iconst 1, 1) := by decide +kernel
theorem dX2_readPlan_104 : decode cX2_readPlan 104 = .ok (.if_icmp .ne 7, 3) := by decide +kernel
theorem dX2_readPlan_107 : decode cX2_readPlan 107 = .ok (.aload_n 1, 1) := by decide +kernel
theorem dX2_readPlan_108 : decode cX2_readPlan 108 = .ok (.invokevirtual 75, 3) := by decide +kernel
theorem dX2_readPlan_111 : decode cX2_readPlan 111 = .ok (.iconst 1, 1) := by decide +kernel
theorem dX2_readPlan_112 : decode cX2_readPlan 112 = .ok (.ireturn, 1) := by decide +kernel
theorem dX2_readFrom_0 : decode cX2_readFrom 0 = .ok (.aload_n 0, 1) := by decide +kernel
theorem dX2_readFrom_1 : decode cX2_readFrom 1 = .ok (.invokevirtual 21, 3) := by decide +kernel
theorem dX2_readFrom_4 : decode cX2_readFrom 4 = .ok (.aload_n 1, 1) := by decide +kernel
theorem dX2_readFrom_5 : decode cX2_readFrom 5 = .ok (.sipush 400, 3) := by decide +kernel
theorem dX2_readFrom_8 : decode cX2_readFrom 8 = .ok (.invokevirtual 38, 3) := by decide +kernel
theorem dX2_readFrom_11 : decode cX2_readFrom 11 = .ok (.iconst 0, 1) := by decide +kernel
theorem dX2_readFrom_12 : decode cX2_readFrom 12 = .ok (.istore_n 3, 1) := by decide +kernel
theorem dX2_readFrom_13 : decode cX2_readFrom 13 = .ok (.iload_n 3, 1) := by decide +kernel
theorem dX2_readFrom_14 : decode cX2_readFrom 14 = .ok (.sipush 400, 3) := by decide +kernel
theorem dX2_readFrom_17 : decode cX2_readFrom 17 = .ok (.if_icmp .ge 47, 3) := by decide +kernel
theorem dX2_readFrom_20 : decode cX2_readFrom 20 = .ok (.aload_n 1, 1) := by decide +kernel
theorem dX2_readFrom_21 : decode cX2_readFrom 21 = .ok (.getfield 44, 3) := by decide +kernel
theorem dX2_readFrom_24 : decode cX2_readFrom 24 = .ok (.iconst 4, 1) := by decide +kernel
theorem dX2_readFrom_25 : decode cX2_readFrom 25 = .ok (.if_icmp .eq 39, 3) := by decide +kernel
theorem dX2_readFrom_28 : decode cX2_readFrom 28 = .ok (.aload_n 0, 1) := by decide +kernel
theorem dX2_readFrom_29 : decode cX2_readFrom 29 = .ok (.aload_n 1, 1) := by decide +kernel
theorem dX2_readFrom_30 : decode cX2_readFrom 30 = .ok (.aload_n 2, 1) := by decide +kernel
theorem dX2_readFrom_31 : decode cX2_readFrom 31 = .ok (.invokevirtual 47, 3) := by decide +kernel
theorem dX2_readFrom_34 : decode cX2_readFrom 34 = .ok (.ifCond .eq 12, 3) := by decide +kernel
theorem dX2_readFrom_37 : decode cX2_readFrom 37 = .ok (.aload_n 1, 1) := by decide +kernel
theorem dX2_readFrom_38 : decode cX2_readFrom 38 = .ok (.bipush 59, 2) := by decide +kernel
theorem dX2_readFrom_40 : decode cX2_readFrom 40 = .ok (.invokevirtual 51, 3) := by decide +kernel
theorem dX2_readFrom_43 : decode cX2_readFrom 43 = .ok (.ifCond .ne 5, 3) := by decide +kernel
theorem dX2_readFrom_46 : decode cX2_readFrom 46 = .ok (.iconst 0, 1) := by decide +kernel
theorem dX2_readFrom_47 : decode cX2_readFrom 47 = .ok (.ireturn, 1) := by decide +kernel
theorem dX2_readFrom_48 : decode cX2_readFrom 48 = .ok (.aload_n 0, 1) := by decide +kernel
theorem dX2_readFrom_49 : decode cX2_readFrom 49 = .ok (.dup, 1) := by decide +kernel
theorem dX2_readFrom_50 : decode cX2_readFrom 50 = .ok (.getfield 24, 3) := by decide +kernel
theorem dX2_readFrom_53 : decode cX2_readFrom 53 = .ok (.iconst 1, 1) := by decide +kernel
theorem dX2_readFrom_54 : decode cX2_readFrom 54 = .ok (.iadd, 1) := by decide +kernel
theorem dX2_readFrom_55 : decode cX2_readFrom 55 = .ok (.putfield 24, 3) := by decide +kernel
theorem dX2_readFrom_58 : decode cX2_readFrom 58 = .ok (.iinc 3 1, 3) := by decide +kernel
theorem dX2_readFrom_61 : decode cX2_readFrom 61 = .ok (.goto (-48), 3) := by decide +kernel
theorem dX2_readFrom_64 : decode cX2_readFrom 64 = .ok (.iconst 1, 1) := by decide +kernel
theorem dX2_readFrom_65 : decode cX2_readFrom 65 = .ok (.ireturn, 1) := by decide +kernel
