theorem dX0_takeSand_0 : decode cX0_takeSand 0 = .ok (.aload_n 1, 1) := by decide +kernel
theorem dX0_takeSand_1 : decode cX0_takeSand 1 = .ok (.getfield 39, 3) := by decide +kernel
theorem dX0_takeSand_4 : decode cX0_takeSand 4 = .ok (.aload_n 0, 1) := by decide +kernel
theorem dX0_takeSand_5 : decode cX0_takeSand 5 = .ok (.getfield 39, 3) := by decide +kernel
theorem dX0_takeSand_8 : decode cX0_takeSand 8 = .ok (.invokestatic 76, 3) := by decide +kernel
theorem dX0_takeSand_11 : decode cX0_takeSand 11 = .ok (.return_, 1) := by decide +kernel
theorem dX0_takeFrom_0 : decode cX0_takeFrom 0 = .ok (.aload_n 0, 1) := by decide +kernel
theorem dX0_takeFrom_1 : decode cX0_takeFrom 1 = .ok (.aload_n 1, 1) := by decide +kernel
theorem dX0_takeFrom_2 : decode cX0_takeFrom 2 = .ok (.getfield 57, 3) := by decide +kernel
theorem dX0_takeFrom_5 : decode cX0_takeFrom 5 = .ok (.putfield 57, 3) := by decide +kernel
theorem dX0_takeFrom_8 : decode cX0_takeFrom 8 = .ok (.aload_n 0, 1) := by decide +kernel
theorem dX0_takeFrom_9 : decode cX0_takeFrom 9 = .ok (.aload_n 1, 1) := by decide +kernel
theorem dX0_takeFrom_10 : decode cX0_takeFrom 10 = .ok (.getfield 61, 3) := by decide +kernel
theorem dX0_takeFrom_13 : decode cX0_takeFrom 13 = .ok (.putfield 61, 3) := by decide +kernel
theorem dX0_takeFrom_16 : decode cX0_takeFrom 16 = .ok (.aload_n 0, 1) := by decide +kernel
theorem dX0_takeFrom_17 : decode cX0_takeFrom 17 = .ok (.aload_n 1, 1) := by decide +kernel
theorem dX0_takeFrom_18 : decode cX0_takeFrom 18 = .ok (.getfield 64, 3) := by decide +kernel
theorem dX0_takeFrom_21 : decode cX0_takeFrom 21 = .ok (.putfield 64, 3) := by decide +kernel
theorem dX0_takeFrom_24 : decode cX0_takeFrom 24 = .ok (.aload_n 0, 1) := by decide +kernel
theorem dX0_takeFrom_25 : decode cX0_takeFrom 25 = .ok (.aload_n 1, 1) := by decide +kernel
theorem dX0_takeFrom_26 : decode cX0_takeFrom 26 = .ok (.getfield 67, 3) := by decide +kernel
theorem dX0_takeFrom_29 : decode cX0_takeFrom 29 = .ok (.putfield 67, 3) := by decide +kernel
theorem dX0_takeFrom_32 : decode cX0_takeFrom 32 = .ok (.aload_n 0, 1) := by decide +kernel
theorem dX0_takeFrom_33 : decode cX0_takeFrom 33 = .ok (.aload_n 1, 1) := by decide +kernel
theorem dX0_takeFrom_34 : decode cX0_takeFrom 34 = .ok (.getfield 70, 3) := by decide +kernel
theorem dX0_takeFrom_37 : decode cX0_takeFrom 37 = .ok (.putfield 70, 3) := by decide +kernel
theorem dX0_takeFrom_40 : decode cX0_takeFrom 40 = .ok (.aload_n 0, 1) := by decide +kernel
theorem dX0_takeFrom_41 : decode cX0_takeFrom 41 = .ok (.aload_n 1, 1) := by decide +kernel
theorem dX0_takeFrom_42 : decode cX0_takeFrom 42 = .ok (.getfield 73, 3) := by decide +kernel
theorem dX0_takeFrom_45 : decode cX0_takeFrom 45 = .ok (.putfield 73, 3) := by decide +kernel
theorem dX0_takeFrom_48 : decode cX0_takeFrom 48 = .ok (.aload_n 1, 1) := by decide +kernel
theorem dX0_takeFrom_49 : decode cX0_takeFrom 49 = .ok (.getfield 9, 3) := by decide +kernel
theorem dX0_takeFrom_52 : decode cX0_takeFrom 52 = .ok (.aload_n 0, 1) := by decide +kernel
theorem dX0_takeFrom_53 : decode cX0_takeFrom 53 = .ok (.getfield 9, 3) := by decide +kernel
theorem dX0_takeFrom_56 : decode cX0_takeFrom 56 = .ok (.invokestatic 76, 3) := by decide +kernel
theorem dX0_takeFrom_59 : decode cX0_takeFrom 59 = .ok (.aload_n 1, 1) := by decide +kernel
theorem dX0_takeFrom_60 : decode cX0_takeFrom 60 = .ok (.getfield 15, 3) := by decide +kernel
theorem dX0_takeFrom_63 : decode cX0_takeFrom 63 = .ok (.aload_n 0, 1) := by decide +kernel
theorem dX0_takeFrom_64 : decode cX0_takeFrom 64 = .ok (.getfield 15, 3) := by decide +kernel
theorem dX0_takeFrom_67 : decode cX0_takeFrom 67 = .ok (.invokestatic 76, 3) := by decide +kernel
theorem dX0_takeFrom_70 : decode cX0_takeFrom 70 = .ok (.aload_n 1, 1) := by decide +kernel
theorem dX0_takeFrom_71 : decode cX0_takeFrom 71 = .ok (.getfield 18, 3) := by decide +kernel
theorem dX0_takeFrom_74 : decode cX0_takeFrom 74 = .ok (.aload_n 0, 1) := by decide +kernel
theorem dX0_takeFrom_75 : decode cX0_takeFrom 75 = .ok (.getfield 18, 3) := by decide +kernel
theorem dX0_takeFrom_78 : decode cX0_takeFrom 78 = .ok (.invokestatic 76, 3) := by decide +kernel
theorem dX0_takeFrom_81 : decode cX0_takeFrom 81 = .ok (.aload_n 1, 1) := by decide +kernel
theorem dX0_takeFrom_82 : decode cX0_takeFrom 82 = .ok (.getfield 21, 3) := by decide +kernel
theorem dX0_takeFrom_85 : decode cX0_takeFrom 85 = .ok (.aload_n 0, 1) := by decide +kernel
theorem dX0_takeFrom_86 : decode cX0_takeFrom 86 = .ok (.getfield 21, 3) := by decide +kernel
theorem dX0_takeFrom_89 : decode cX0_takeFrom 89 = .ok (.invokestatic 76, 3) := by decide +kernel
theorem dX0_takeFrom_92 : decode cX0_takeFrom 92 = .ok (.aload_n 1, 1) := by decide +kernel
theorem dX0_takeFrom_93 : decode cX0_takeFrom 93 = .ok (.getfield 24, 3) := by decide +kernel
theorem dX0_takeFrom_96 : decode cX0_takeFrom 96 = .ok (.aload_n 0, 1) := by decide +kernel
theorem dX0_takeFrom_97 : decode cX0_takeFrom 97 = .ok (.getfield 24, 3) := by decide +kernel
theorem dX0_takeFrom_100 : decode cX0_takeFrom 100 = .ok (.invokestatic 76, 3) := by decide +kernel
theorem dX0_takeFrom_103 : decode cX0_takeFrom 103 = .ok (.aload_n 1, 1) := by decide +kernel
theorem dX0_takeFrom_104 : decode cX0_takeFrom 104 = .ok (.getfield 27, 3) := by decide +kernel
theorem dX0_takeFrom_107 : decode cX0_takeFrom 107 = .ok (.aload_n 0, 1) := by decide +kernel
theorem dX0_takeFrom_108 : decode cX0_takeFrom 108 = .ok (.getfield 27, 3) := by decide +kernel
theorem dX0_takeFrom_111 : decode cX0_takeFrom 111 = .ok (.invokestatic 76, 3) := by decide +kernel
theorem dX0_takeFrom_114 : decode cX0_takeFrom 114 = .ok (.aload_n 1, 1) := by decide +kernel
theorem dX0_takeFrom_115 : decode cX0_takeFrom 115 = .ok (.getfield 30, 3) := by decide +kernel
theorem dX0_takeFrom_118 : decode cX0_takeFrom 118 = .ok (.aload_n 0, 1) := by decide +kernel
theorem dX0_takeFrom_119 : decode cX0_takeFrom 119 = .ok (.getfield 30, 3) := by decide +kernel
theorem dX0_takeFrom_122 : decode cX0_takeFrom 122 = .ok (.invokestatic 76, 3) := by decide +kernel
theorem dX0_takeFrom_125 : decode cX0_takeFrom 125 = .ok (.aload_n 1, 1) := by decide +kernel
theorem dX0_takeFrom_126 : decode cX0_takeFrom 126 = .ok (.getfield 33, 3) := by decide +kernel
theorem dX0_takeFrom_129 : decode cX0_takeFrom 129 = .ok (.aload_n 0, 1) := by decide +kernel
theorem dX0_takeFrom_130 : decode cX0_takeFrom 130 = .ok (.getfield 33, 3) := by decide +kernel
theorem dX0_takeFrom_133 : decode cX0_takeFrom 133 = .ok (.invokestatic 76, 3) := by decide +kernel
theorem dX0_takeFrom_136 : decode cX0_takeFrom 136 = .ok (.aload_n 1, 1) := by decide +kernel
theorem dX0_takeFrom_137 : decode cX0_takeFrom 137 = .ok (.getfield 36, 3) := by decide +kernel
theorem dX0_takeFrom_140 : decode cX0_takeFrom 140 = .ok (.aload_n 0, 1) := by decide +kernel
theorem dX0_takeFrom_141 : decode cX0_takeFrom 141 = .ok (.getfield 36, 3) := by decide +kernel
theorem dX0_takeFrom_144 : decode cX0_takeFrom 144 = .ok (.invokestatic 76, 3) := by decide +kernel
theorem dX0_takeFrom_147 : decode cX0_takeFrom 147 = .ok (.aload_n 1, 1) := by decide +kernel
theorem dX0_takeFrom_148 : decode cX0_takeFrom 148 = .ok (.getfield 42, 3) := by decide +kernel
theorem dX0_takeFrom_151 : decode cX0_takeFrom 151 = .ok (.aload_n 0, 1) := by decide +kernel
theorem dX0_takeFrom_152 : decode cX0_takeFrom 152 = .ok (.getfield 42, 3) := by decide +kernel
theorem dX0_takeFrom_155 : decode cX0_takeFrom 155 = .ok (.invokestatic 76, 3) := by decide +kernel
theorem dX0_takeFrom_158 : decode cX0_takeFrom 158 = .ok (.aload_n 0, 1) := by decide +kernel
theorem dX0_takeFrom_159 : decode cX0_takeFrom 159 = .ok (.aload_n 1, 1) := by decide +kernel
theorem dX0_takeFrom_160 : decode cX0_takeFrom 160 = .ok (.invokevirtual 80, 3) := by decide +kernel
theorem dX0_takeFrom_163 : decode cX0_takeFrom 163 = .ok (.return_, 1) := by decide +kernel
theorem dX0_clearSand_0 : decode cX0_clearSand 0 = .ok (.aload_n 0, 1) := by decide +kernel
theorem dX0_clearSand_1 : decode cX0_clearSand 1 = .ok (.getfield 39, 3) := by decide +kernel
theorem dX0_clearSand_4 : decode cX0_clearSand 4 = .ok (.iconst 0, 1) := by decide +kernel
theorem dX0_clearSand_5 : decode cX0_clearSand 5 = .ok (.invokestatic 84, 3) := by decide +kernel
theorem dX0_clearSand_8 : decode cX0_clearSand 8 = .ok (.return_, 1) := by decide +kernel
theorem dX0_startDay_0 : decode cX0_startDay 0 = .ok (.aload_n 0, 1) := by decide +kernel
theorem dX0_startDay_1 : decode cX0_startDay 1 = .ok (.iconst 0, 1) := by decide +kernel
theorem dX0_startDay_2 : decode cX0_startDay 2 = .ok (.putfield 61, 3) := by decide +kernel
theorem dX0_startDay_5 : decode cX0_startDay 5 = .ok (.aload_n 0, 1) := by decide +kernel
theorem dX0_startDay_6 : decode cX0_startDay 6 = .ok (.getfield 27, 3) := by decide +kernel
theorem dX0_startDay_9 : decode cX0_startDay 9 = .ok (.iconst 0, 1) := by decide +kernel
theorem dX0_startDay_10 : decode cX0_startDay 10 = .ok (.invokestatic 84, 3) := by decide +kernel
theorem dX0_startDay_13 : decode cX0_startDay 13 = .ok (.aload_n 0, 1) := by decide +kernel
theorem dX0_startDay_14 : decode cX0_startDay 14 = .ok (.getfield 36, 3) := by decide +kernel
theorem dX0_startDay_17 : decode cX0_startDay 17 = .ok (.iconst 0, 1) := by decide +kernel
theorem dX0_startDay_18 : decode cX0_startDay 18 = .ok (.invokestatic 84, 3) := by decide +kernel
theorem dX0_startDay_21 : decode cX0_startDay 21 = .ok (.aload_n 0, 1) := by decide +kernel
theorem dX0_startDay_22 : decode cX0_startDay 22 = .ok (.getfield 45, 3) := by decide +kernel
theorem dX0_startDay_25 : decode cX0_startDay 25 = .ok (.getfield 96, 3) := by decide +kernel
theorem dX0_startDay_28 : decode cX0_startDay 28 = .ok (.aload_n 0, 1) := by decide +kernel
theorem dX0_startDay_29 : decode cX0_startDay 29 = .ok (.getfield 30, 3) := by decide +kernel
theorem dX0_startDay_32 : decode cX0_startDay 32 = .ok (.invokestatic 76, 3) := by decide +kernel
theorem dX0_startDay_35 : decode cX0_startDay 35 = .ok (.return_, 1) := by decide +kernel
theorem dX0_restart_0 : decode cX0_restart 0 = .ok (.aload_n 0, 1) := by decide +kernel
theorem dX0_restart_1 : decode cX0_restart 1 = .ok (.iconst 0, 1) := by decide +kernel
theorem dX0_restart_2 : decode cX0_restart 2 = .ok (.putfield 57, 3) := by decide +kernel
theorem dX0_restart_5 : decode cX0_restart 5 = .ok (.aload_n 0, 1) := by decide +kernel
theorem dX0_restart_6 : decode cX0_restart 6 = .ok (.iload_n 1, 1) := by decide +kernel
theorem dX0_restart_7 : decode cX0_restart 7 = .ok (.putfield 64, 3) := by decide +kernel
theorem dX0_restart_10 : decode cX0_restart 10 = .ok (.aload_n 0, 1) := by decide +kernel
theorem dX0_restart_11 : decode cX0_restart 11 = .ok (.iconst 0, 1) := by decide +kernel
theorem dX0_restart_12 : decode cX0_restart 12 = .ok (.putfield 67, 3) := by decide +kernel
theorem dX0_restart_15 : decode cX0_restart 15 = .ok (.aload_n 0, 1) := by decide +kernel
theorem dX0_restart_16 : decode cX0_restart 16 = .ok (.iconst 0, 1) := by decide +kernel
theorem dX0_restart_17 : decode cX0_restart 17 = .ok (.putfield 70, 3) := by decide +kernel
theorem dX0_restart_20 : decode cX0_restart 20 = .ok (.aload_n 0, 1) := by decide +kernel
theorem dX0_restart_21 : decode cX0_restart 21 = .ok (.iconst 0, 1) := by decide +kernel
theorem dX0_restart_22 : decode cX0_restart 22 = .ok (.putfield 73, 3) := by decide +kernel
theorem dX0_restart_25 : decode cX0_restart 25 = .ok (.aload_n 0, 1) := by decide +kernel
theorem dX0_restart_26 : decode cX0_restart 26 = .ok (.getfield 9, 3) := by decide +kernel
theorem dX0_restart_29 : decode cX0_restart 29 = .ok (.iconst 0, 1) := by decide +kernel
theorem dX0_restart_30 : decode cX0_restart 30 = .ok (.invokestatic 84, 3) := by decide +kernel
theorem dX0_restart_33 : decode cX0_restart 33 = .ok (.aload_n 0, 1) := by decide +kernel
theorem dX0_restart_34 : decode cX0_restart 34 = .ok (.getfield 18, 3) := by decide +kernel
theorem dX0_restart_37 : decode cX0_restart 37 = .ok (.iconst 0, 1) := by decide +kernel
theorem dX0_restart_38 : decode cX0_restart 38 = .ok (.invokestatic 84, 3) := by decide +kernel
theorem dX0_restart_41 : decode cX0_restart 41 = .ok (.aload_n 0, 1) := by decide +kernel
theorem dX0_restart_42 : decode cX0_restart 42 = .ok (.getfield 21, 3) := by decide +kernel
theorem dX0_restart_45 : decode cX0_restart 45 = .ok (.iconst 0, 1) := by decide +kernel
theorem dX0_restart_46 : decode cX0_restart 46 = .ok (.invokestatic 84, 3) := by decide +kernel
theorem dX0_restart_49 : decode cX0_restart 49 = .ok (.aload_n 0, 1) := by decide +kernel
theorem dX0_restart_50 : decode cX0_restart 50 = .ok (.getfield 24, 3) := by decide +kernel
theorem dX0_restart_53 : decode cX0_restart 53 = .ok (.iconst 0, 1) := by decide +kernel
theorem dX0_restart_54 : decode cX0_restart 54 = .ok (.invokestatic 84, 3) := by decide +kernel
theorem dX0_restart_57 : decode cX0_restart 57 = .ok (.aload_n 0, 1) := by decide +kernel
theorem dX0_restart_58 : decode cX0_restart 58 = .ok (.getfield 33, 3) := by decide +kernel
theorem dX0_restart_61 : decode cX0_restart 61 = .ok (.iconst 0, 1) := by decide +kernel
theorem dX0_restart_62 : decode cX0_restart 62 = .ok (.invokestatic 84, 3) := by decide +kernel
theorem dX0_restart_65 : decode cX0_restart 65 = .ok (.aload_n 0, 1) := by decide +kernel
theorem dX0_restart_66 : decode cX0_restart 66 = .ok (.getfield 45, 3) := by decide +kernel
theorem dX0_restart_69 : decode cX0_restart 69 = .ok (.getfield 90, 3) := by decide +kernel
theorem dX0_restart_72 : decode cX0_restart 72 = .ok (.aload_n 0, 1) := by decide +kernel
theorem dX0_restart_73 : decode cX0_restart 73 = .ok (.getfield 15, 3) := by decide +kernel
theorem dX0_restart_76 : decode cX0_restart 76 = .ok (.invokestatic 76, 3) := by decide +kernel
theorem dX0_restart_79 : decode cX0_restart 79 = .ok (.aload_n 0, 1) := by decide +kernel
theorem dX0_restart_80 : decode cX0_restart 80 = .ok (.invokevirtual 93, 3) := by decide +kernel
theorem dX0_restart_83 : decode cX0_restart 83 = .ok (.return_, 1) := by decide +kernel
theorem dX0_drainFor_0 : decode cX0_drainFor 0 = .ok (.iconst 0, 1) := by decide +kernel
theorem dX0_drainFor_1 : decode cX0_drainFor 1 = .ok (.istore_n 2, 1) := by decide +kernel
theorem dX0_drainFor_2 : decode cX0_drainFor 2 = .ok (.iload_n 2, 1) := by decide +kernel
theorem dX0_drainFor_3 : decode cX0_drainFor 3 = .ok (.aload_n 0, 1) := by decide +kernel
theorem dX0_drainFor_4 : decode cX0_drainFor 4 = .ok (.getfield 53, 3) := by decide +kernel
theorem dX0_drainFor_7 : decode cX0_drainFor 7 = .ok (.getfield 123, 3) := by decide +kernel
theorem dX0_drainFor_10 : decode cX0_drainFor 10 = .ok (.if_icmp .ge 47, 3) := by decide +kernel
theorem dX0_drainFor_13 : decode cX0_drainFor 13 = .ok (.aload_n 0, 1) := by decide +kernel
theorem dX0_drainFor_14 : decode cX0_drainFor 14 = .ok (.getfield 53, 3) := by decide +kernel
theorem dX0_drainFor_17 : decode cX0_drainFor 17 = .ok (.getfield 126, 3) := by decide +kernel
theorem dX0_drainFor_20 : decode cX0_drainFor 20 = .ok (.iload_n 2, 1) := by decide +kernel
theorem dX0_drainFor_21 : decode cX0_drainFor 21 = .ok (.iaload, 1) := by decide +kernel
theorem dX0_drainFor_22 : decode cX0_drainFor 22 = .ok (.istore_n 3, 1) := by decide +kernel
theorem dX0_drainFor_23 : decode cX0_drainFor 23 = .ok (.aload_n 0, 1) := by decide +kernel
theorem dX0_drainFor_24 : decode cX0_drainFor 24 = .ok (.getfield 36, 3) := by decide +kernel
theorem dX0_drainFor_27 : decode cX0_drainFor 27 = .ok (.iload_n 3, 1) := by decide +kernel
theorem dX0_drainFor_28 : decode cX0_drainFor 28 = .ok (.iconst 0, 1) := by decide +kernel
theorem dX0_drainFor_29 : decode cX0_drainFor 29 = .ok (.aload_n 0, 1) := by decide +kernel
theorem dX0_drainFor_30 : decode cX0_drainFor 30 = .ok (.getfield 36, 3) := by decide +kernel
theorem dX0_drainFor_33 : decode cX0_drainFor 33 = .ok (.iload_n 3, 1) := by decide +kernel
theorem dX0_drainFor_34 : decode cX0_drainFor 34 = .ok (.iaload, 1) := by decide +kernel
theorem dX0_drainFor_35 : decode cX0_drainFor 35 = .ok (.iload_n 1, 1) := by decide +kernel
theorem dX0_drainFor_36 : decode cX0_drainFor 36 = .ok (.aload_n 0, 1) := by decide +kernel
theorem dX0_drainFor_37 : decode cX0_drainFor 37 = .ok (.getfield 53, 3) := by decide +kernel
theorem dX0_drainFor_40 : decode cX0_drainFor 40 = .ok (.getfield 129, 3) := by decide +kernel
theorem dX0_drainFor_43 : decode cX0_drainFor 43 = .ok (.iload_n 3, 1) := by decide +kernel
theorem dX0_drainFor_44 : decode cX0_drainFor 44 = .ok (.iaload, 1) := by decide +kernel
theorem dX0_drainFor_45 : decode cX0_drainFor 45 = .ok (.imul, 1) := by decide +kernel
theorem dX0_drainFor_46 : decode cX0_drainFor 46 = .ok (.isub, 1) := by decide +kernel
theorem dX0_drainFor_47 : decode cX0_drainFor 47 = .ok (.invokestatic 112, 3) := by decide +kernel
theorem dX0_drainFor_50 : decode cX0_drainFor 50 = .ok (.iastore, 1) := by decide +kernel
theorem dX0_drainFor_51 : decode cX0_drainFor 51 = .ok (.iinc 2 1, 3) := by decide +kernel
theorem dX0_drainFor_54 : decode cX0_drainFor 54 = .ok (.goto (-52), 3) := by decide +kernel
theorem dX0_drainFor_57 : decode cX0_drainFor 57 = .ok (.return_, 1) := by decide +kernel
theorem dX0_endDay_0 : decode cX0_endDay 0 = .ok (.aload_n 0, 1) := by decide +kernel
theorem dX0_endDay_1 : decode cX0_endDay 1 = .ok (.dup, 1) := by decide +kernel
theorem dX0_endDay_2 : decode cX0_endDay 2 = .ok (.getfield 57, 3) := by decide +kernel
theorem dX0_endDay_5 : decode cX0_endDay 5 = .ok (.iconst 1, 1) := by decide +kernel
theorem dX0_endDay_6 : decode cX0_endDay 6 = .ok (.iadd, 1) := by decide +kernel
theorem dX0_endDay_7 : decode cX0_endDay 7 = .ok (.putfield 57, 3) := by decide +kernel
theorem dX0_endDay_10 : decode cX0_endDay 10 = .ok (.aload_n 0, 1) := by decide +kernel
theorem dX0_endDay_11 : decode cX0_endDay 11 = .ok (.getfield 57, 3) := by decide +kernel
theorem dX0_endDay_14 : decode cX0_endDay 14 = .ok (.iconst 3, 1) := by decide +kernel
theorem dX0_endDay_15 : decode cX0_endDay 15 = .ok (.if_icmp .ge 7, 3) := by decide +kernel
theorem dX0_endDay_18 : decode cX0_endDay 18 = .ok (.aload_n 0, 1) := by decide +kernel
theorem dX0_endDay_19 : decode cX0_endDay 19 = .ok (.invokevirtual 93, 3) := by decide +kernel
theorem dX0_endDay_22 : decode cX0_endDay 22 = .ok (.return_, 1) := by decide +kernel
theorem dX0_aimedVisit_0 : decode cX0_aimedVisit 0 = .ok (.aload_n 0, 1) := by decide +kernel
theorem dX0_aimedVisit_1 : decode cX0_aimedVisit 1 = .ok (.getfield 49, 3) := by decide +kernel
theorem dX0_aimedVisit_4 : decode cX0_aimedVisit 4 = .ok (.iload_n 1, 1) := by decide +kernel
theorem dX0_aimedVisit_5 : decode cX0_aimedVisit 5 = .ok (.invokevirtual 154, 3) := by decide +kernel
theorem dX0_aimedVisit_8 : decode cX0_aimedVisit 8 = .ok (.ifCond .eq 12, 3) := by decide +kernel
theorem dX0_aimedVisit_11 : decode cX0_aimedVisit 11 = .ok (.aload_n 0, 1) := by decide +kernel
theorem dX0_aimedVisit_12 : decode cX0_aimedVisit 12 = .ok (.getfield 15, 3) := by decide +kernel
theorem dX0_aimedVisit_15 : decode cX0_aimedVisit 15 = .ok (.iload_n 1, 1) := by decide +kernel
theorem dX0_aimedVisit_16 : decode cX0_aimedVisit 16 = .ok (.iaload, 1) := by decide +kernel
theorem dX0_aimedVisit_17 : decode cX0_aimedVisit 17 = .ok (.ifCond .gt 5, 3) := by decide +kernel
theorem dX0_aimedVisit_20 : decode cX0_aimedVisit 20 = .ok (.iconst (-1), 1) := by decide +kernel
theorem dX0_aimedVisit_21 : decode cX0_aimedVisit 21 = .ok (.ireturn, 1) := by decide +kernel
theorem dX0_aimedVisit_22 : decode cX0_aimedVisit 22 = .ok (.aload_n 0, 1) := by decide +kernel
theorem dX0_aimedVisit_23 : decode cX0_aimedVisit 23 = .ok (.getfield 53, 3) := by decide +kernel
theorem dX0_aimedVisit_26 : decode cX0_aimedVisit 26 = .ok (.iload_n 1, 1) := by decide +kernel
theorem dX0_aimedVisit_27 : decode cX0_aimedVisit 27 = .ok (.iload_n 2, 1) := by decide +kernel
theorem dX0_aimedVisit_28 : decode cX0_aimedVisit 28 = .ok (.aload_n 0, 1) := by decide +kernel
theorem dX0_aimedVisit_29 : decode cX0_aimedVisit 29 = .ok (.getfield 49, 3) := by decide +kernel
theorem dX0_aimedVisit_32 : decode cX0_aimedVisit 32 = .ok (.getfield 160, 3) := by decide +kernel
theorem dX0_aimedVisit_35 : decode cX0_aimedVisit 35 = .ok (.iload_n 1, 1) := by decide +kernel
theorem dX0_aimedVisit_36 : decode cX0_aimedVisit 36 = .ok (.iaload, 1) := by decide +kernel
theorem dX0_aimedVisit_37 : decode cX0_aimedVisit 37 = .ok (.aload_n 0, 1) := by decide +kernel
theorem dX0_aimedVisit_38 : decode cX0_aimedVisit 38 = .ok (.getfield 49, 3) := by decide +kernel
theorem dX0_aimedVisit_41 : decode cX0_aimedVisit 41 = .ok (.getfield 163, 3) := by decide +kernel
theorem dX0_aimedVisit_44 : decode cX0_aimedVisit 44 = .ok (.iload_n 1, 1) := by decide +kernel
theorem dX0_aimedVisit_45 : decode cX0_aimedVisit 45 = .ok (.iaload, 1) := by decide +kernel
theorem dX0_aimedVisit_46 : decode cX0_aimedVisit 46 = .ok (.aload_n 0, 1) := by decide +kernel
theorem dX0_aimedVisit_47 : decode cX0_aimedVisit 47 = .ok (.getfield 27, 3) := by decide +kernel
theorem dX0_aimedVisit_50 : decode cX0_aimedVisit 50 = .ok (.iload_n 1, 1) := by decide +kernel
theorem dX0_aimedVisit_51 : decode cX0_aimedVisit 51 = .ok (.bipush 20, 2) := by decide +kernel
theorem dX0_aimedVisit_53 : decode cX0_aimedVisit 53 = .ok (.imul, 1) := by decide +kernel
theorem dX0_aimedVisit_54 : decode cX0_aimedVisit 54 = .ok (.invokevirtual 166, 3) := by decide +kernel
theorem dX0_aimedVisit_57 : decode cX0_aimedVisit 57 = .ok (.ireturn, 1) := by decide +kernel
theorem dX0_isHitOn_0 : decode cX0_isHitOn 0 = .ok (.aload_n 0, 1) := by decide +kernel
theorem dX0_isHitOn_1 : decode cX0_isHitOn 1 = .ok (.getfield 42, 3) := by decide +kernel
theorem dX0_isHitOn_4 : decode cX0_isHitOn 4 = .ok (.iload_n 1, 1) := by decide +kernel
theorem dX0_isHitOn_5 : decode cX0_isHitOn 5 = .ok (.bipush 6, 2) := by decide +kernel
theorem dX0_isHitOn_7 : decode cX0_isHitOn 7 = .ok (.imul, 1) := by decide +kernel
theorem dX0_isHitOn_8 : decode cX0_isHitOn 8 = .ok (.iconst 1, 1) := by decide +kernel
theorem dX0_isHitOn_9 : decode cX0_isHitOn 9 = .ok (.iadd, 1) := by decide +kernel
theorem dX0_isHitOn_10 : decode cX0_isHitOn 10 = .ok (.iaload, 1) := by decide +kernel
theorem dX0_isHitOn_11 : decode cX0_isHitOn 11 = .ok (.iload_n 2, 1) := by decide +kernel
theorem dX0_isHitOn_12 : decode cX0_isHitOn 12 = .ok (.if_icmp .ne 22, 3) := by decide +kernel
theorem dX0_isHitOn_15 : decode cX0_isHitOn 15 = .ok (.aload_n 0, 1) := by decide +kernel
theorem dX0_isHitOn_16 : decode cX0_isHitOn 16 = .ok (.getfield 42, 3) := by decide +kernel
theorem dX0_isHitOn_19 : decode cX0_isHitOn 19 = .ok (.iload_n 1, 1) := by decide +kernel
theorem dX0_isHitOn_20 : decode cX0_isHitOn 20 = .ok (.bipush 6, 2) := by decide +kernel
theorem dX0_isHitOn_22 : decode cX0_isHitOn 22 = .ok (.imul, 1) := by decide +kernel
theorem dX0_isHitOn_23 : decode cX0_isHitOn 23 = .ok (.iconst 2, 1) := by decide +kernel
theorem dX0_isHitOn_24 : decode cX0_isHitOn 24 = .ok (.iadd, 1) := by decide +kernel
theorem dX0_isHitOn_25 : decode cX0_isHitOn 25 = .ok (.iaload, 1) := by decide +kernel
theorem dX0_isHitOn_26 : decode cX0_isHitOn 26 = .ok (.iconst 3, 1) := by decide +kernel
theorem dX0_isHitOn_27 : decode cX0_isHitOn 27 = .ok (.if_icmp .lt 7, 3) := by decide +kernel
theorem dX0_isHitOn_30 : decode cX0_isHitOn 30 = .ok (.iconst 1, 1) := by decide +kernel
theorem dX0_isHitOn_31 : decode cX0_isHitOn 31 = .ok (.goto 4, 3) := by decide +kernel
theorem dX0_isHitOn_34 : decode cX0_isHitOn 34 = .ok (.iconst 0, 1) := by decide +kernel
theorem dX0_isHitOn_35 : decode cX0_isHitOn 35 = .ok (.ireturn, 1) := by decide +kernel
theorem dX0_markThrow_0 : decode cX0_markThrow 0 = .ok (.iload_n 1, 1) := by decide +kernel
theorem dX0_markThrow_1 : decode cX0_markThrow 1 = .ok (.bipush 6, 2) := by decide +kernel
theorem dX0_markThrow_3 : decode cX0_markThrow 3 = .ok (.imul, 1) := by decide +kernel
theorem dX0_markThrow_4 : decode cX0_markThrow 4 = .ok (.istore_n 2, 1) := by decide +kernel
theorem dX0_markThrow_5 : decode cX0_markThrow 5 = .ok (.aload_n 0, 1) := by decide +kernel
theorem dX0_markThrow_6 : decode cX0_markThrow 6 = .ok (.getfield 42, 3) := by decide +kernel
theorem dX0_markThrow_9 : decode cX0_markThrow 9 = .ok (.iload_n 2, 1) := by decide +kernel
theorem dX0_markThrow_10 : decode cX0_markThrow 10 = .ok (.iconst 1, 1) := by decide +kernel
theorem dX0_markThrow_11 : decode cX0_markThrow 11 = .ok (.iadd, 1) := by decide +kernel
theorem dX0_markThrow_12 : decode cX0_markThrow 12 = .ok (.iaload, 1) := by decide +kernel
theorem dX0_markThrow_13 : decode cX0_markThrow 13 = .ok (.istore_n 3, 1) := by decide +kernel
theorem dX0_markThrow_14 : decode cX0_markThrow 14 = .ok (.aload_n 0, 1) := by decide +kernel
theorem dX0_markThrow_15 : decode cX0_markThrow 15 = .ok (.iload_n 1, 1) := by decide +kernel
theorem dX0_markThrow_16 : decode cX0_markThrow 16 = .ok (.iload_n 3, 1) := by decide +kernel
theorem dX0_markThrow_17 : decode cX0_markThrow 17 = .ok (.invokevirtual 210, 3) := by decide +kernel
theorem dX0_markThrow_20 : decode cX0_markThrow 20 = .ok (.ifCond .ne 4, 3) := by decide +kernel
theorem dX0_markThrow_23 : decode cX0_markThrow 23 = .ok (.return_, 1) := by decide +kernel
theorem dX0_markThrow_24 : decode cX0_markThrow 24 = .ok (.iconst 0, 1) := by decide +kernel
theorem dX0_markThrow_25 : decode cX0_markThrow 25 = .ok (.istore 4, 2) := by decide +kernel
theorem dX0_markThrow_27 : decode cX0_markThrow 27 = .ok (.iconst 0, 1) := by decide +kernel
theorem dX0_markThrow_28 : decode cX0_markThrow 28 = .ok (.istore 5, 2) := by decide +kernel
theorem dX0_markThrow_30 : decode cX0_markThrow 30 = .ok (.iload 5, 2) := by decide +kernel
theorem dX0_markThrow_32 : decode cX0_markThrow 32 = .ok (.aload_n 0, 1) := by decide +kernel
theorem dX0_markThrow_33 : decode cX0_markThrow 33 = .ok (.getfield 73, 3) := by decide +kernel
theorem dX0_markThrow_36 : decode cX0_markThrow 36 = .ok (.if_icmp .ge 28, 3) := by decide +kernel
theorem dX0_markThrow_39 : decode cX0_markThrow 39 = .ok (.iload 5, 2) := by decide +kernel
theorem dX0_markThrow_41 : decode cX0_markThrow 41 = .ok (.iload_n 1, 1) := by decide +kernel
theorem dX0_markThrow_42 : decode cX0_markThrow 42 = .ok (.if_icmp .eq 16, 3) := by decide +kernel
theorem dX0_markThrow_45 : decode cX0_markThrow 45 = .ok (.aload_n 0, 1) := by decide +kernel
theorem dX0_markThrow_46 : decode cX0_markThrow 46 = .ok (.iload 5, 2) := by decide +kernel
theorem dX0_markThrow_48 : decode cX0_markThrow 48 = .ok (.iload_n 3, 1) := by decide +kernel
theorem dX0_markThrow_49 : decode cX0_markThrow 49 = .ok (.invokevirtual 210, 3) := by decide +kernel
theorem dX0_markThrow_52 : decode cX0_markThrow 52 = .ok (.ifCond .eq 6, 3) := by decide +kernel
theorem dX0_markThrow_55 : decode cX0_markThrow 55 = .ok (.iinc 4 1, 3) := by decide +kernel
theorem dX0_markThrow_58 : decode cX0_markThrow 58 = .ok (.iinc 5 1, 3) := by decide +kernel
theorem dX0_markThrow_61 : decode cX0_markThrow 61 = .ok (.goto (-31), 3) := by decide +kernel
theorem dX0_markThrow_64 : decode cX0_markThrow 64 = .ok (.aload_n 0, 1) := by decide +kernel
theorem dX0_markThrow_65 : decode cX0_markThrow 65 = .ok (.getfield 42, 3) := by decide +kernel
theorem dX0_markThrow_68 : decode cX0_markThrow 68 = .ok (.iload_n 2, 1) := by decide +kernel
theorem dX0_markThrow_69 : decode cX0_markThrow 69 = .ok (.iaload, 1) := by decide +kernel
theorem dX0_markThrow_70 : decode cX0_markThrow 70 = .ok (.istore 5, 2) := by decide +kernel
theorem dX0_markThrow_72 : decode cX0_markThrow 72 = .ok (.aload_n 0, 1) := by decide +kernel
theorem dX0_markThrow_73 : decode cX0_markThrow 73 = .ok (.getfield 42, 3) := by decide +kernel
theorem dX0_markThrow_76 : decode cX0_markThrow 76 = .ok (.iload_n 2, 1) := by decide +kernel
theorem dX0_markThrow_77 : decode cX0_markThrow 77 = .ok (.iconst 4, 1) := by decide +kernel
theorem dX0_markThrow_78 : decode cX0_markThrow 78 = .ok (.iadd, 1) := by decide +kernel
theorem dX0_markThrow_79 : decode cX0_markThrow 79 = .ok (.iload 4, 2) := by decide +kernel
theorem dX0_markThrow_81 : decode cX0_markThrow 81 = .ok (.iastore, 1) := by decide +kernel
theorem dX0_markThrow_82 : decode cX0_markThrow 82 = .ok (.aload_n 0, 1) := by decide +kernel
theorem dX0_markThrow_83 : decode cX0_markThrow 83 = .ok (.getfield 42, 3) := by decide +kernel
theorem dX0_markThrow_86 : decode cX0_markThrow 86 = .ok (.iload_n 2, 1) := by decide +kernel
theorem dX0_markThrow_87 : decode cX0_markThrow 87 = .ok (.iconst 5, 1) := by decide +kernel
theorem dX0_markThrow_88 : decode cX0_markThrow 88 = .ok (.iadd, 1) := by decide +kernel
theorem dX0_markThrow_89 : decode cX0_markThrow 89 = .ok (.aload_n 0, 1) := by decide +kernel
theorem dX0_markThrow_90 : decode cX0_markThrow 90 = .ok (.getfield 53, 3) := by decide +kernel
theorem dX0_markThrow_93 : decode cX0_markThrow 93 = .ok (.getfield 213, 3) := by decide +kernel
theorem dX0_markThrow_96 : decode cX0_markThrow 96 = .ok (.iload 5, 2) := by decide +kernel
theorem dX0_markThrow_98 : decode cX0_markThrow 98 = .ok (.iaload, 1) := by decide +kernel
theorem dX0_markThrow_99 : decode cX0_markThrow 99 = .ok (.aload_n 0, 1) := by decide +kernel
theorem dX0_markThrow_100 : decode cX0_markThrow 100 = .ok (.getfield 45, 3) := by decide +kernel
theorem dX0_markThrow_103 : decode cX0_markThrow 103 = .ok (.aload_n 0, 1) := by decide +kernel
theorem dX0_markThrow_104 : decode cX0_markThrow 104 = .ok (.getfield 42, 3) := by decide +kernel
theorem dX0_markThrow_107 : decode cX0_markThrow 107 = .ok (.iload_n 2, 1) := by decide +kernel
theorem dX0_markThrow_108 : decode cX0_markThrow 108 = .ok (.iconst 3, 1) := by decide +kernel
theorem dX0_markThrow_109 : decode cX0_markThrow 109 = .ok (.iadd, 1) := by decide +kernel
theorem dX0_markThrow_110 : decode cX0_markThrow 110 = .ok (.iaload, 1) := by decide +kernel
theorem dX0_markThrow_111 : decode cX0_markThrow 111 = .ok (.aload_n 0, 1) := by decide +kernel
theorem dX0_markThrow_112 : decode cX0_markThrow 112 = .ok (.getfield 42, 3) := by decide +kernel
theorem dX0_markThrow_115 : decode cX0_markThrow 115 = .ok (.iload_n 2, 1) := by decide +kernel
theorem dX0_markThrow_116 : decode cX0_markThrow 116 = .ok (.iconst 2, 1) := by decide +kernel
theorem dX0_markThrow_117 : decode cX0_markThrow 117 = .ok (.iadd, 1) := by decide +kernel
theorem dX0_markThrow_118 : decode cX0_markThrow 118 = .ok (.iaload, 1) := by decide +kernel
theorem dX0_markThrow_119 : decode cX0_markThrow 119 = .ok (.iconst 3, 1) := by decide +kernel
theorem dX0_markThrow_120 : decode cX0_markThrow 120 = .ok (.if_icmp .ne 7, 3) := by decide +kernel
theorem dX0_markThrow_123 : decode cX0_markThrow 123 = .ok (.iconst 1, 1) := by decide +kernel
theorem dX0_markThrow_124 : decode cX0_markThrow 124 = .ok (.goto 4, 3) := by decide +kernel
theorem dX0_markThrow_127 : decode cX0_markThrow 127 = .ok (.iconst 0, 1) := by decide +kernel
theorem dX0_markThrow_128 : decode cX0_markThrow 128 = .ok (.iload 4, 2) := by decide +kernel
theorem dX0_markThrow_130 : decode cX0_markThrow 130 = .ok (.invokevirtual 216, 3) := by decide +kernel
theorem dX0_markThrow_133 : decode cX0_markThrow 133 = .ok (.imul, 1) := by decide +kernel
theorem dX0_markThrow_134 : decode cX0_markThrow 134 = .ok (.iastore, 1) := by decide +kernel
theorem dX0_markThrow_135 : decode cX0_markThrow 135 = .ok (.aload_n 0, 1) := by decide +kernel
theorem dX0_markThrow_136 : decode cX0_markThrow 136 = .ok (.getfield 18, 3) := by decide +kernel
theorem dX0_markThrow_139 : decode cX0_markThrow 139 = .ok (.iload 5, 2) := by decide +kernel
theorem dX0_markThrow_141 : decode cX0_markThrow 141 = .ok (.dup2, 1) := by decide +kernel
theorem dX0_markThrow_142 : decode cX0_markThrow 142 = .ok (.iaload, 1) := by decide +kernel
theorem dX0_markThrow_143 : decode cX0_markThrow 143 = .ok (.aload_n 0, 1) := by decide +kernel
theorem dX0_markThrow_144 : decode cX0_markThrow 144 = .ok (.getfield 42, 3) := by decide +kernel
theorem dX0_markThrow_147 : decode cX0_markThrow 147 = .ok (.iload_n 2, 1) := by decide +kernel
theorem dX0_markThrow_148 : decode cX0_markThrow 148 = .ok (.iconst 5, 1) := by decide +kernel
theorem dX0_markThrow_149 : decode cX0_markThrow 149 = .ok (.iadd, 1) := by decide +kernel
theorem dX0_markThrow_150 : decode cX0_markThrow 150 = .ok (.iaload, 1) := by decide +kernel
theorem dX0_markThrow_151 : decode cX0_markThrow 151 = .ok (.iadd, 1) := by decide +kernel
theorem dX0_markThrow_152 : decode cX0_markThrow 152 = .ok (.iastore, 1) := by decide +kernel
theorem dX0_markThrow_153 : decode cX0_markThrow 153 = .ok (.return_, 1) := by decide +kernel
theorem dX0_draw_0 : decode cX0_draw 0 = .ok (.aload_n 0, 1) := by decide +kernel
theorem dX0_draw_1 : decode cX0_draw 1 = .ok (.aload_n 0, 1) := by decide +kernel
theorem dX0_draw_2 : decode cX0_draw 2 = .ok (.getfield 64, 3) := by decide +kernel
theorem dX0_draw_5 : decode cX0_draw 5 = .ok (.ldc 209, 2) := by decide +kernel
theorem dX0_draw_7 : decode cX0_draw 7 = .ok (.imul, 1) := by decide +kernel
theorem dX0_draw_8 : decode cX0_draw 8 = .ok (.sipush 12345, 3) := by decide +kernel
theorem dX0_draw_11 : decode cX0_draw 11 = .ok (.iadd, 1) := by decide +kernel
theorem dX0_draw_12 : decode cX0_draw 12 = .ok (.putfield 64, 3) := by decide +kernel
theorem dX0_draw_15 : decode cX0_draw 15 = .ok (.iload_n 1, 1) := by decide +kernel
theorem dX0_draw_16 : decode cX0_draw 16 = .ok (.ifCond .le 15, 3) := by decide +kernel
theorem dX0_draw_19 : decode cX0_draw 19 = .ok (.aload_n 0, 1) := by decide +kernel
theorem dX0_draw_20 : decode cX0_draw 20 = .ok (.getfield 64, 3) := by decide +kernel
theorem dX0_draw_23 : decode cX0_draw 23 = .ok (.bipush 8, 2) := by decide +kernel
theorem dX0_draw_25 : decode cX0_draw 25 = .ok (.iushr, 1) := by decide +kernel
theorem dX0_draw_26 : decode cX0_draw 26 = .ok (.iload_n 1, 1) := by decide +kernel
theorem dX0_draw_27 : decode cX0_draw 27 = .ok (.irem, 1) := by decide +kernel
theorem dX0_draw_28 : decode cX0_draw 28 = .ok (.goto 4, 3) := by decide +kernel
theorem dX0_draw_31 : decode cX0_draw 31 = .ok (.iconst 0, 1) := by decide +kernel
theorem dX0_draw_32 : decode cX0_draw 32 = .ok (.ireturn, 1) := by decide +kernel
theorem dX0_kindOf_0 : decode cX0_kindOf 0 = .ok (.aload_n 0, 1) := by decide +kernel
theorem dX0_kindOf_1 : decode cX0_kindOf 1 = .ok (.getfield 53, 3) := by decide +kernel
theorem dX0_kindOf_4 : decode cX0_kindOf 4 = .ok (.iload_n 2, 1) := by decide +kernel
theorem dX0_kindOf_5 : decode cX0_kindOf 5 = .ok (.iload_n 3, 1) := by decide +kernel
theorem dX0_kindOf_6 : decode cX0_kindOf 6 = .ok (.invokevirtual 198, 3) := by decide +kernel
theorem dX0_kindOf_9 : decode cX0_kindOf 9 = .ok (.ifCond .eq 5, 3) := by decide +kernel
theorem dX0_kindOf_12 : decode cX0_kindOf 12 = .ok (.iconst 0, 1) := by decide +kernel
theorem dX0_kindOf_13 : decode cX0_kindOf 13 = .ok (.ireturn, 1) := by decide +kernel
theorem dX0_kindOf_14 : decode cX0_kindOf 14 = .ok (.aload_n 0, 1) := by decide +kernel
theorem dX0_kindOf_15 : decode cX0_kindOf 15 = .ok (.getfield 45, 3) := by decide +kernel
theorem dX0_kindOf_18 : decode cX0_kindOf 18 = .ok (.getfield 180, 3) := by decide +kernel
theorem dX0_kindOf_21 : decode cX0_kindOf 21 = .ok (.iload_n 1, 1) := by decide +kernel
theorem dX0_kindOf_22 : decode cX0_kindOf 22 = .ok (.iaload, 1) := by decide +kernel
theorem dX0_kindOf_23 : decode cX0_kindOf 23 = .ok (.istore 4, 2) := by decide +kernel
theorem dX0_kindOf_25 : decode cX0_kindOf 25 = .ok (.aload_n 0, 1) := by decide +kernel
theorem dX0_kindOf_26 : decode cX0_kindOf 26 = .ok (.getfield 39, 3) := by decide +kernel
theorem dX0_kindOf_29 : decode cX0_kindOf 29 = .ok (.iload 4, 2) := by decide +kernel
theorem dX0_kindOf_31 : decode cX0_kindOf 31 = .ok (.iaload, 1) := by decide +kernel
theorem dX0_kindOf_32 : decode cX0_kindOf 32 = .ok (.ifCond .ne 21, 3) := by decide +kernel
theorem dX0_kindOf_35 : decode cX0_kindOf 35 = .ok (.aload_n 0, 1) := by decide +kernel
theorem dX0_kindOf_36 : decode cX0_kindOf 36 = .ok (.bipush 40, 2) := by decide +kernel
theorem dX0_kindOf_38 : decode cX0_kindOf 38 = .ok (.invokevirtual 202, 3) := by decide +kernel
theorem dX0_kindOf_41 : decode cX0_kindOf 41 = .ok (.aload_n 0, 1) := by decide +kernel
theorem dX0_kindOf_42 : decode cX0_kindOf 42 = .ok (.getfield 36, 3) := by decide +kernel
theorem dX0_kindOf_45 : decode cX0_kindOf 45 = .ok (.iload 4, 2) := by decide +kernel
theorem dX0_kindOf_47 : decode cX0_kindOf 47 = .ok (.iaload, 1) := by decide +kernel
theorem dX0_kindOf_48 : decode cX0_kindOf 48 = .ok (.if_icmp .ge 5, 3) := by decide +kernel
theorem dX0_kindOf_51 : decode cX0_kindOf 51 = .ok (.iconst 1, 1) := by decide +kernel
theorem dX0_kindOf_52 : decode cX0_kindOf 52 = .ok (.ireturn, 1) := by decide +kernel
theorem dX0_kindOf_53 : decode cX0_kindOf 53 = .ok (.aload_n 0, 1) := by decide +kernel
theorem dX0_kindOf_54 : decode cX0_kindOf 54 = .ok (.getfield 49, 3) := by decide +kernel
theorem dX0_kindOf_57 : decode cX0_kindOf 57 = .ok (.getfield 206, 3) := by decide +kernel
theorem dX0_kindOf_60 : decode cX0_kindOf 60 = .ok (.iload_n 1, 1) := by decide +kernel
theorem dX0_kindOf_61 : decode cX0_kindOf 61 = .ok (.iaload, 1) := by decide +kernel
theorem dX0_kindOf_62 : decode cX0_kindOf 62 = .ok (.iconst 1, 1) := by decide +kernel
theorem dX0_kindOf_63 : decode cX0_kindOf 63 = .ok (.if_icmp .ne 15, 3) := by decide +kernel
theorem dX0_kindOf_66 : decode cX0_kindOf 66 = .ok (.aload_n 0, 1) := by decide +kernel
theorem dX0_kindOf_67 : decode cX0_kindOf 67 = .ok (.getfield 61, 3) := by decide +kernel
theorem dX0_kindOf_70 : decode cX0_kindOf 70 = .ok (.iconst 2, 1) := by decide +kernel
theorem dX0_kindOf_71 : decode cX0_kindOf 71 = .ok (.irem, 1) := by decide +kernel
theorem dX0_kindOf_72 : decode cX0_kindOf 72 = .ok (.iconst 1, 1) := by decide +kernel
theorem dX0_kindOf_73 : decode cX0_kindOf 73 = .ok (.if_icmp .ne 5, 3) := by decide +kernel
theorem dX0_kindOf_76 : decode cX0_kindOf 76 = .ok (.iconst 2, 1) := by decide +kernel
theorem dX0_kindOf_77 : decode cX0_kindOf 77 = .ok (.ireturn, 1) := by decide +kernel
theorem dX0_kindOf_78 : decode cX0_kindOf 78 = .ok (.iload_n 3, 1) := by decide +kernel
theorem dX0_kindOf_79 : decode cX0_kindOf 79 = .ok (.iconst 2, 1) := by decide +kernel
theorem dX0_kindOf_80 : decode cX0_kindOf 80 = .ok (.if_icmp .gt 7, 3) := by decide +kernel
theorem dX0_kindOf_83 : decode cX0_kindOf 83 = .ok (.iconst 3, 1) := by decide +kernel
theorem dX0_kindOf_84 : decode cX0_kindOf 84 = .ok (.goto 4, 3) := by decide +kernel
theorem dX0_kindOf_87 : decode cX0_kindOf 87 = .ok (.iconst 4, 1) := by decide +kernel
theorem dX0_kindOf_88 : decode cX0_kindOf 88 = .ok (.ireturn, 1) := by decide +kernel
theorem dX0_tellThrow_0 : decode cX0_tellThrow 0 = .ok (.aload_n 0, 1) := by decide +kernel
theorem dX0_tellThrow_1 : decode cX0_tellThrow 1 = .ok (.getfield 73, 3) := by decide +kernel
theorem dX0_tellThrow_4 : decode cX0_tellThrow 4 = .ok (.bipush 6, 2) := by decide +kernel
theorem dX0_tellThrow_6 : decode cX0_tellThrow 6 = .ok (.imul, 1) := by decide +kernel
theorem dX0_tellThrow_7 : decode cX0_tellThrow 7 = .ok (.istore 5, 2) := by decide +kernel
theorem dX0_tellThrow_9 : decode cX0_tellThrow 9 = .ok (.aload_n 0, 1) := by decide +kernel
theorem dX0_tellThrow_10 : decode cX0_tellThrow 10 = .ok (.getfield 42, 3) := by decide +kernel
theorem dX0_tellThrow_13 : decode cX0_tellThrow 13 = .ok (.iload 5, 2) := by decide +kernel
theorem dX0_tellThrow_15 : decode cX0_tellThrow 15 = .ok (.iload_n 1, 1) := by decide +kernel
theorem dX0_tellThrow_16 : decode cX0_tellThrow 16 = .ok (.iastore, 1) := by decide +kernel
theorem dX0_tellThrow_17 : decode cX0_tellThrow 17 = .ok (.aload_n 0, 1) := by decide +kernel
theorem dX0_tellThrow_18 : decode cX0_tellThrow 18 = .ok (.getfield 42, 3) := by decide +kernel
theorem dX0_tellThrow_21 : decode cX0_tellThrow 21 = .ok (.iload 5, 2) := by decide +kernel
theorem dX0_tellThrow_23 : decode cX0_tellThrow 23 = .ok (.iconst 1, 1) := by decide +kernel
theorem dX0_tellThrow_24 : decode cX0_tellThrow 24 = .ok (.iadd, 1) := by decide +kernel
theorem dX0_tellThrow_25 : decode cX0_tellThrow 25 = .ok (.iload_n 2, 1) := by decide +kernel
theorem dX0_tellThrow_26 : decode cX0_tellThrow 26 = .ok (.iastore, 1) := by decide +kernel
theorem dX0_tellThrow_27 : decode cX0_tellThrow 27 = .ok (.aload_n 0, 1) := by decide +kernel
theorem dX0_tellThrow_28 : decode cX0_tellThrow 28 = .ok (.getfield 42, 3) := by decide +kernel
theorem dX0_tellThrow_31 : decode cX0_tellThrow 31 = .ok (.iload 5, 2) := by decide +kernel
theorem dX0_tellThrow_33 : decode cX0_tellThrow 33 = .ok (.iconst 2, 1) := by decide +kernel
theorem dX0_tellThrow_34 : decode cX0_tellThrow 34 = .ok (.iadd, 1) := by decide +kernel
theorem dX0_tellThrow_35 : decode cX0_tellThrow 35 = .ok (.iload_n 3, 1) := by decide +kernel
theorem dX0_tellThrow_36 : decode cX0_tellThrow 36 = .ok (.iastore, 1) := by decide +kernel
theorem dX0_tellThrow_37 : decode cX0_tellThrow 37 = .ok (.aload_n 0, 1) := by decide +kernel
theorem dX0_tellThrow_38 : decode cX0_tellThrow 38 = .ok (.getfield 42, 3) := by decide +kernel
theorem dX0_tellThrow_41 : decode cX0_tellThrow 41 = .ok (.iload 5, 2) := by decide +kernel
theorem dX0_tellThrow_43 : decode cX0_tellThrow 43 = .ok (.iconst 3, 1) := by decide +kernel
theorem dX0_tellThrow_44 : decode cX0_tellThrow 44 = .ok (.iadd, 1) := by decide +kernel
theorem dX0_tellThrow_45 : decode cX0_tellThrow 45 = .ok (.iload 4, 2) := by decide +kernel
theorem dX0_tellThrow_47 : decode cX0_tellThrow 47 = .ok (.iastore, 1) := by decide +kernel
theorem dX0_tellThrow_48 : decode cX0_tellThrow 48 = .ok (.aload_n 0, 1) := by decide +kernel
theorem dX0_tellThrow_49 : decode cX0_tellThrow 49 = .ok (.getfield 42, 3) := by decide +kernel
theorem dX0_tellThrow_52 : decode cX0_tellThrow 52 = .ok (.iload 5, 2) := by decide +kernel
theorem dX0_tellThrow_54 : decode cX0_tellThrow 54 = .ok (.iconst 4, 1) := by decide +kernel
theorem dX0_tellThrow_55 : decode cX0_tellThrow 55 = .ok (.iadd, 1) := by decide +kernel
theorem dX0_tellThrow_56 : decode cX0_tellThrow 56 = .ok (.iconst 0, 1) := by decide +kernel
theorem dX0_tellThrow_57 : decode cX0_tellThrow 57 = .ok (.iastore, 1) := by decide +kernel
theorem dX0_tellThrow_58 : decode cX0_tellThrow 58 = .ok (.aload_n 0, 1) := by decide +kernel
theorem dX0_tellThrow_59 : decode cX0_tellThrow 59 = .ok (.getfield 42, 3) := by decide +kernel
theorem dX0_tellThrow_62 : decode cX0_tellThrow 62 = .ok (.iload 5, 2) := by decide +kernel
theorem dX0_tellThrow_64 : decode cX0_tellThrow 64 = .ok (.iconst 5, 1) := by decide +kernel
theorem dX0_tellThrow_65 : decode cX0_tellThrow 65 = .ok (.iadd, 1) := by decide +kernel
theorem dX0_tellThrow_66 : decode cX0_tellThrow 66 = .ok (.iconst 0, 1) := by decide +kernel
theorem dX0_tellThrow_67 : decode cX0_tellThrow 67 = .ok (.iastore, 1) := by decide +kernel
theorem dX0_tellThrow_68 : decode cX0_tellThrow 68 = .ok (.aload_n 0, 1) := by decide +kernel
theorem dX0_tellThrow_69 : decode cX0_tellThrow 69 = .ok (.dup, 1) := by decide +kernel
theorem dX0_tellThrow_70 : decode cX0_tellThrow 70 = .ok (.getfield 73, 3) := by decide +kernel
theorem dX0_tellThrow_73 : decode cX0_tellThrow 73 = .ok (.iconst 1, 1) := by decide +kernel
theorem dX0_tellThrow_74 : decode cX0_tellThrow 74 = .ok (.iadd, 1) := by decide +kernel
theorem dX0_tellThrow_75 : decode cX0_tellThrow 75 = .ok (.putfield 73, 3) := by decide +kernel
theorem dX0_tellThrow_78 : decode cX0_tellThrow 78 = .ok (.return_, 1) := by decide +kernel
theorem dX0_useBox_0 : decode cX0_useBox 0 = .ok (.aload_n 0, 1) := by decide +kernel
theorem dX0_useBox_1 : decode cX0_useBox 1 = .ok (.getfield 15, 3) := by decide +kernel
theorem dX0_useBox_4 : decode cX0_useBox 4 = .ok (.iload_n 1, 1) := by decide +kernel
theorem dX0_useBox_5 : decode cX0_useBox 5 = .ok (.dup2, 1) := by decide +kernel
theorem dX0_useBox_6 : decode cX0_useBox 6 = .ok (.iaload, 1) := by decide +kernel
theorem dX0_useBox_7 : decode cX0_useBox 7 = .ok (.iconst 1, 1) := by decide +kernel
theorem dX0_useBox_8 : decode cX0_useBox 8 = .ok (.isub, 1) := by decide +kernel
theorem dX0_useBox_9 : decode cX0_useBox 9 = .ok (.iastore, 1) := by decide +kernel
theorem dX0_useBox_10 : decode cX0_useBox 10 = .ok (.aload_n 0, 1) := by decide +kernel
theorem dX0_useBox_11 : decode cX0_useBox 11 = .ok (.getfield 27, 3) := by decide +kernel
theorem dX0_useBox_14 : decode cX0_useBox 14 = .ok (.iload_n 1, 1) := by decide +kernel
theorem dX0_useBox_15 : decode cX0_useBox 15 = .ok (.bipush 20, 2) := by decide +kernel
theorem dX0_useBox_17 : decode cX0_useBox 17 = .ok (.imul, 1) := by decide +kernel
theorem dX0_useBox_18 : decode cX0_useBox 18 = .ok (.iload_n 2, 1) := by decide +kernel
theorem dX0_useBox_19 : decode cX0_useBox 19 = .ok (.iadd, 1) := by decide +kernel
theorem dX0_useBox_20 : decode cX0_useBox 20 = .ok (.dup2, 1) := by decide +kernel
theorem dX0_useBox_21 : decode cX0_useBox 21 = .ok (.iaload, 1) := by decide +kernel
theorem dX0_useBox_22 : decode cX0_useBox 22 = .ok (.iconst 1, 1) := by decide +kernel
theorem dX0_useBox_23 : decode cX0_useBox 23 = .ok (.iadd, 1) := by decide +kernel
theorem dX0_useBox_24 : decode cX0_useBox 24 = .ok (.iastore, 1) := by decide +kernel
theorem dX0_useBox_25 : decode cX0_useBox 25 = .ok (.aload_n 0, 1) := by decide +kernel
theorem dX0_useBox_26 : decode cX0_useBox 26 = .ok (.getfield 36, 3) := by decide +kernel
theorem dX0_useBox_29 : decode cX0_useBox 29 = .ok (.iload_n 3, 1) := by decide +kernel
theorem dX0_useBox_30 : decode cX0_useBox 30 = .ok (.dup2, 1) := by decide +kernel
theorem dX0_useBox_31 : decode cX0_useBox 31 = .ok (.iaload, 1) := by decide +kernel
theorem dX0_useBox_32 : decode cX0_useBox 32 = .ok (.iconst 1, 1) := by decide +kernel
theorem dX0_useBox_33 : decode cX0_useBox 33 = .ok (.iadd, 1) := by decide +kernel
theorem dX0_useBox_34 : decode cX0_useBox 34 = .ok (.iastore, 1) := by decide +kernel
theorem dX0_useBox_35 : decode cX0_useBox 35 = .ok (.aload_n 0, 1) := by decide +kernel
theorem dX0_useBox_36 : decode cX0_useBox 36 = .ok (.dup, 1) := by decide +kernel
theorem dX0_useBox_37 : decode cX0_useBox 37 = .ok (.getfield 67, 3) := by decide +kernel
theorem dX0_useBox_40 : decode cX0_useBox 40 = .ok (.iconst 1, 1) := by decide +kernel
theorem dX0_useBox_41 : decode cX0_useBox 41 = .ok (.iadd, 1) := by decide +kernel
theorem dX0_useBox_42 : decode cX0_useBox 42 = .ok (.putfield 67, 3) := by decide +kernel
theorem dX0_useBox_45 : decode cX0_useBox 45 = .ok (.return_, 1) := by decide +kernel
theorem dX0_throwAt_0 : decode cX0_throwAt 0 = .ok (.aload_n 0, 1) := by decide +kernel
theorem dX0_throwAt_1 : decode cX0_throwAt 1 = .ok (.getfield 53, 3) := by decide +kernel
theorem dX0_throwAt_4 : decode cX0_throwAt 4 = .ok (.getfield 173, 3) := by decide +kernel
theorem dX0_throwAt_7 : decode cX0_throwAt 7 = .ok (.iload_n 1, 1) := by decide +kernel
theorem dX0_throwAt_8 : decode cX0_throwAt 8 = .ok (.bipush 20, 2) := by decide +kernel
theorem dX0_throwAt_10 : decode cX0_throwAt 10 = .ok (.imul, 1) := by decide +kernel
theorem dX0_throwAt_11 : decode cX0_throwAt 11 = .ok (.iload_n 2, 1) := by decide +kernel
theorem dX0_throwAt_12 : decode cX0_throwAt 12 = .ok (.iadd, 1) := by decide +kernel
theorem dX0_throwAt_13 : decode cX0_throwAt 13 = .ok (.iaload, 1) := by decide +kernel
theorem dX0_throwAt_14 : decode cX0_throwAt 14 = .ok (.istore_n 3, 1) := by decide +kernel
theorem dX0_throwAt_15 : decode cX0_throwAt 15 = .ok (.aload_n 0, 1) := by decide +kernel
theorem dX0_throwAt_16 : decode cX0_throwAt 16 = .ok (.iload_n 1, 1) := by decide +kernel
theorem dX0_throwAt_17 : decode cX0_throwAt 17 = .ok (.iload_n 2, 1) := by decide +kernel
theorem dX0_throwAt_18 : decode cX0_throwAt 18 = .ok (.iload_n 3, 1) := by decide +kernel
theorem dX0_throwAt_19 : decode cX0_throwAt 19 = .ok (.invokevirtual 176, 3) := by decide +kernel
theorem dX0_throwAt_22 : decode cX0_throwAt 22 = .ok (.istore 4, 2) := by decide +kernel
theorem dX0_throwAt_24 : decode cX0_throwAt 24 = .ok (.iconst 0, 1) := by decide +kernel
theorem dX0_throwAt_25 : decode cX0_throwAt 25 = .ok (.istore 5, 2) := by decide +kernel
theorem dX0_throwAt_27 : decode cX0_throwAt 27 = .ok (.iload 4, 2) := by decide +kernel
theorem dX0_throwAt_29 : decode cX0_throwAt 29 = .ok (.iconst 2, 1) := by decide +kernel
theorem dX0_throwAt_30 : decode cX0_throwAt 30 = .ok (.if_icmp .ne 13, 3) := by decide +kernel
theorem dX0_throwAt_33 : decode cX0_throwAt 33 = .ok (.aload_n 0, 1) := by decide +kernel
theorem dX0_throwAt_34 : decode cX0_throwAt 34 = .ok (.getfield 24, 3) := by decide +kernel
theorem dX0_throwAt_37 : decode cX0_throwAt 37 = .ok (.iload_n 1, 1) := by decide +kernel
theorem dX0_throwAt_38 : decode cX0_throwAt 38 = .ok (.iconst 2, 1) := by decide +kernel
theorem dX0_throwAt_39 : decode cX0_throwAt 39 = .ok (.iastore, 1) := by decide +kernel
theorem dX0_throwAt_40 : decode cX0_throwAt 40 = .ok (.goto 83, 3) := by decide +kernel
theorem dX0_throwAt_43 : decode cX0_throwAt 43 = .ok (.iload 4, 2) := by decide +kernel
theorem dX0_throwAt_45 : decode cX0_throwAt 45 = .ok (.iconst 1, 1) := by decide +kernel
theorem dX0_throwAt_46 : decode cX0_throwAt 46 = .ok (.if_icmp .ne 21, 3) := by decide +kernel
theorem dX0_throwAt_49 : decode cX0_throwAt 49 = .ok (.aload_n 0, 1) := by decide +kernel
theorem dX0_throwAt_50 : decode cX0_throwAt 50 = .ok (.iload_n 1, 1) := by decide +kernel
theorem dX0_throwAt_51 : decode cX0_throwAt 51 = .ok (.iload_n 2, 1) := by decide +kernel
theorem dX0_throwAt_52 : decode cX0_throwAt 52 = .ok (.aload_n 0, 1) := by decide +kernel
theorem dX0_throwAt_53 : decode cX0_throwAt 53 = .ok (.getfield 45, 3) := by decide +kernel
theorem dX0_throwAt_56 : decode cX0_throwAt 56 = .ok (.getfield 180, 3) := by decide +kernel
theorem dX0_throwAt_59 : decode cX0_throwAt 59 = .ok (.iload_n 1, 1) := by decide +kernel
theorem dX0_throwAt_60 : decode cX0_throwAt 60 = .ok (.iaload, 1) := by decide +kernel
theorem dX0_throwAt_61 : decode cX0_throwAt 61 = .ok (.invokevirtual 183, 3) := by decide +kernel
theorem dX0_throwAt_64 : decode cX0_throwAt 64 = .ok (.goto 59, 3) := by decide +kernel
theorem dX0_throwAt_67 : decode cX0_throwAt 67 = .ok (.iload 4, 2) := by decide +kernel
theorem dX0_throwAt_69 : decode cX0_throwAt 69 = .ok (.ifCond .eq 54, 3) := by decide +kernel
theorem dX0_throwAt_72 : decode cX0_throwAt 72 = .ok (.aload_n 0, 1) := by decide +kernel
theorem dX0_throwAt_73 : decode cX0_throwAt 73 = .ok (.getfield 45, 3) := by decide +kernel
theorem dX0_throwAt_76 : decode cX0_throwAt 76 = .ok (.iload_n 1, 1) := by decide +kernel
theorem dX0_throwAt_77 : decode cX0_throwAt 77 = .ok (.iload_n 2, 1) := by decide +kernel
theorem dX0_throwAt_78 : decode cX0_throwAt 78 = .ok (.iload_n 3, 1) := by decide +kernel
theorem dX0_throwAt_79 : decode cX0_throwAt 79 = .ok (.aload_n 0, 1) := by decide +kernel
theorem dX0_throwAt_80 : decode cX0_throwAt 80 = .ok (.getfield 24, 3) := by decide +kernel
theorem dX0_throwAt_83 : decode cX0_throwAt 83 = .ok (.iload_n 1, 1) := by decide +kernel
theorem dX0_throwAt_84 : decode cX0_throwAt 84 = .ok (.iaload, 1) := by decide +kernel
theorem dX0_throwAt_85 : decode cX0_throwAt 85 = .ok (.invokevirtual 187, 3) := by decide +kernel
theorem dX0_throwAt_88 : decode cX0_throwAt 88 = .ok (.istore 5, 2) := by decide +kernel
theorem dX0_throwAt_90 : decode cX0_throwAt 90 = .ok (.aload_n 0, 1) := by decide +kernel
theorem dX0_throwAt_91 : decode cX0_throwAt 91 = .ok (.getfield 24, 3) := by decide +kernel
theorem dX0_throwAt_94 : decode cX0_throwAt 94 = .ok (.iload_n 1, 1) := by decide +kernel
theorem dX0_throwAt_95 : decode cX0_throwAt 95 = .ok (.iconst 0, 1) := by decide +kernel
theorem dX0_throwAt_96 : decode cX0_throwAt 96 = .ok (.iastore, 1) := by decide +kernel
theorem dX0_throwAt_97 : decode cX0_throwAt 97 = .ok (.aload_n 0, 1) := by decide +kernel
theorem dX0_throwAt_98 : decode cX0_throwAt 98 = .ok (.getfield 33, 3) := by decide +kernel
theorem dX0_throwAt_101 : decode cX0_throwAt 101 = .ok (.iload_n 2, 1) := by decide +kernel
theorem dX0_throwAt_102 : decode cX0_throwAt 102 = .ok (.dup2, 1) := by decide +kernel
theorem dX0_throwAt_103 : decode cX0_throwAt 103 = .ok (.iaload, 1) := by decide +kernel
theorem dX0_throwAt_104 : decode cX0_throwAt 104 = .ok (.iload 5, 2) := by decide +kernel
theorem dX0_throwAt_106 : decode cX0_throwAt 106 = .ok (.iadd, 1) := by decide +kernel
theorem dX0_throwAt_107 : decode cX0_throwAt 107 = .ok (.iastore, 1) := by decide +kernel
theorem dX0_throwAt_108 : decode cX0_throwAt 108 = .ok (.aload_n 0, 1) := by decide +kernel
theorem dX0_throwAt_109 : decode cX0_throwAt 109 = .ok (.iload_n 1, 1) := by decide +kernel
theorem dX0_throwAt_110 : decode cX0_throwAt 110 = .ok (.iload_n 2, 1) := by decide +kernel
theorem dX0_throwAt_111 : decode cX0_throwAt 111 = .ok (.aload_n 0, 1) := by decide +kernel
theorem dX0_throwAt_112 : decode cX0_throwAt 112 = .ok (.getfield 45, 3) := by decide +kernel
theorem dX0_throwAt_115 : decode cX0_throwAt 115 = .ok (.getfield 191, 3) := by decide +kernel
theorem dX0_throwAt_118 : decode cX0_throwAt 118 = .ok (.iload_n 2, 1) := by decide +kernel
theorem dX0_throwAt_119 : decode cX0_throwAt 119 = .ok (.iaload, 1) := by decide +kernel
theorem dX0_throwAt_120 : decode cX0_throwAt 120 = .ok (.invokevirtual 183, 3) := by decide +kernel
theorem dX0_throwAt_123 : decode cX0_throwAt 123 = .ok (.aload_n 0, 1) := by decide +kernel
theorem dX0_throwAt_124 : decode cX0_throwAt 124 = .ok (.getfield 9, 3) := by decide +kernel
theorem dX0_throwAt_127 : decode cX0_throwAt 127 = .ok (.iload 4, 2) := by decide +kernel
theorem dX0_throwAt_129 : decode cX0_throwAt 129 = .ok (.dup2, 1) := by decide +kernel
theorem dX0_throwAt_130 : decode cX0_throwAt 130 = .ok (.iaload, 1) := by decide +kernel
theorem dX0_throwAt_131 : decode cX0_throwAt 131 = .ok (.iconst 1, 1) := by decide +kernel
theorem dX0_throwAt_132 : decode cX0_throwAt 132 = .ok (.iadd, 1) := by decide +kernel
theorem dX0_throwAt_133 : decode cX0_throwAt 133 = .ok (.iastore, 1) := by decide +kernel
theorem dX0_throwAt_134 : decode cX0_throwAt 134 = .ok (.aload_n 0, 1) := by decide +kernel
theorem dX0_throwAt_135 : decode cX0_throwAt 135 = .ok (.iload_n 1, 1) := by decide +kernel
theorem dX0_throwAt_136 : decode cX0_throwAt 136 = .ok (.iload_n 2, 1) := by decide +kernel
theorem dX0_throwAt_137 : decode cX0_throwAt 137 = .ok (.iload 4, 2) := by decide +kernel
theorem dX0_throwAt_139 : decode cX0_throwAt 139 = .ok (.iload 5, 2) := by decide +kernel
theorem dX0_throwAt_141 : decode cX0_throwAt 141 = .ok (.invokevirtual 194, 3) := by decide +kernel
theorem dX0_throwAt_144 : decode cX0_throwAt 144 = .ok (.return_, 1) := by decide +kernel
theorem dX0_throwBack_0 : decode cX0_throwBack 0 = .ok (.aload_n 0, 1) := by decide +kernel
theorem dX0_throwBack_1 : decode cX0_throwBack 1 = .ok (.getfield 53, 3) := by decide +kernel
theorem dX0_throwBack_4 : decode cX0_throwBack 4 = .ok (.getfield 220, 3) := by decide +kernel
theorem dX0_throwBack_7 : decode cX0_throwBack 7 = .ok (.iload_n 1, 1) := by decide +kernel
theorem dX0_throwBack_8 : decode cX0_throwBack 8 = .ok (.iaload, 1) := by decide +kernel
theorem dX0_throwBack_9 : decode cX0_throwBack 9 = .ok (.istore_n 2, 1) := by decide +kernel
theorem dX0_throwBack_10 : decode cX0_throwBack 10 = .ok (.aload_n 0, 1) := by decide +kernel
theorem dX0_throwBack_11 : decode cX0_throwBack 11 = .ok (.getfield 30, 3) := by decide +kernel
theorem dX0_throwBack_14 : decode cX0_throwBack 14 = .ok (.iload_n 1, 1) := by decide +kernel
theorem dX0_throwBack_15 : decode cX0_throwBack 15 = .ok (.iaload, 1) := by decide +kernel
theorem dX0_throwBack_16 : decode cX0_throwBack 16 = .ok (.ifCond .le 8, 3) := by decide +kernel
theorem dX0_throwBack_19 : decode cX0_throwBack 19 = .ok (.iload_n 2, 1) := by decide +kernel
theorem dX0_throwBack_20 : decode cX0_throwBack 20 = .ok (.iconst (-1), 1) := by decide +kernel
theorem dX0_throwBack_21 : decode cX0_throwBack 21 = .ok (.if_icmp .ne 4, 3) := by decide +kernel
theorem dX0_throwBack_24 : decode cX0_throwBack 24 = .ok (.return_, 1) := by decide +kernel
theorem dX0_throwBack_25 : decode cX0_throwBack 25 = .ok (.aload_n 0, 1) := by decide +kernel
theorem dX0_throwBack_26 : decode cX0_throwBack 26 = .ok (.getfield 30, 3) := by decide +kernel
theorem dX0_throwBack_29 : decode cX0_throwBack 29 = .ok (.iload_n 1, 1) := by decide +kernel
theorem dX0_throwBack_30 : decode cX0_throwBack 30 = .ok (.dup2, 1) := by decide +kernel
theorem dX0_throwBack_31 : decode cX0_throwBack 31 = .ok (.iaload, 1) := by decide +kernel
theorem dX0_throwBack_32 : decode cX0_throwBack 32 = .ok (.iconst 1, 1) := by decide +kernel
theorem dX0_throwBack_33 : decode cX0_throwBack 33 = .ok (.isub, 1) := by decide +kernel
theorem dX0_throwBack_34 : decode cX0_throwBack 34 = .ok (.iastore, 1) := by decide +kernel
theorem dX0_throwBack_35 : decode cX0_throwBack 35 = .ok (.aload_n 0, 1) := by decide +kernel
theorem dX0_throwBack_36 : decode cX0_throwBack 36 = .ok (.dup, 1) := by decide +kernel
theorem dX0_throwBack_37 : decode cX0_throwBack 37 = .ok (.getfield 70, 3) := by decide +kernel
theorem dX0_throwBack_40 : decode cX0_throwBack 40 = .ok (.iconst 1, 1) := by decide +kernel
theorem dX0_throwBack_41 : decode cX0_throwBack 41 = .ok (.iadd, 1) := by decide +kernel
theorem dX0_throwBack_42 : decode cX0_throwBack 42 = .ok (.putfield 70, 3) := by decide +kernel
theorem dX0_throwBack_45 : decode cX0_throwBack 45 = .ok (.aload_n 0, 1) := by decide +kernel
theorem dX0_throwBack_46 : decode cX0_throwBack 46 = .ok (.getfield 36, 3) := by decide +kernel
theorem dX0_throwBack_49 : decode cX0_throwBack 49 = .ok (.aload_n 0, 1) := by decide +kernel
theorem dX0_throwBack_50 : decode cX0_throwBack 50 = .ok (.getfield 45, 3) := by decide +kernel
theorem dX0_throwBack_53 : decode cX0_throwBack 53 = .ok (.getfield 180, 3) := by decide +kernel
theorem dX0_throwBack_56 : decode cX0_throwBack 56 = .ok (.iload_n 2, 1) := by decide +kernel
theorem dX0_throwBack_57 : decode cX0_throwBack 57 = .ok (.iaload, 1) := by decide +kernel
theorem dX0_throwBack_58 : decode cX0_throwBack 58 = .ok (.dup2, 1) := by decide +kernel
theorem dX0_throwBack_59 : decode cX0_throwBack 59 = .ok (.iaload, 1) := by decide +kernel
theorem dX0_throwBack_60 : decode cX0_throwBack 60 = .ok (.iconst 2, 1) := by decide +kernel
theorem dX0_throwBack_61 : decode cX0_throwBack 61 = .ok (.iadd, 1) := by decide +kernel
theorem dX0_throwBack_62 : decode cX0_throwBack 62 = .ok (.iastore, 1) := by decide +kernel
theorem dX0_throwBack_63 : decode cX0_throwBack 63 = .ok (.aload_n 0, 1) := by decide +kernel
theorem dX0_throwBack_64 : decode cX0_throwBack 64 = .ok (.getfield 21, 3) := by decide +kernel
theorem dX0_throwBack_67 : decode cX0_throwBack 67 = .ok (.iload_n 2, 1) := by decide +kernel
theorem dX0_throwBack_68 : decode cX0_throwBack 68 = .ok (.dup2, 1) := by decide +kernel
theorem dX0_throwBack_69 : decode cX0_throwBack 69 = .ok (.iaload, 1) := by decide +kernel
theorem dX0_throwBack_70 : decode cX0_throwBack 70 = .ok (.iconst 3, 1) := by decide +kernel
theorem dX0_throwBack_71 : decode cX0_throwBack 71 = .ok (.aload_n 0, 1) := by decide +kernel
theorem dX0_throwBack_72 : decode cX0_throwBack 72 = .ok (.getfield 53, 3) := by decide +kernel
theorem dX0_throwBack_75 : decode cX0_throwBack 75 = .ok (.getfield 173, 3) := by decide +kernel
theorem dX0_throwBack_78 : decode cX0_throwBack 78 = .ok (.iload_n 2, 1) := by decide +kernel
theorem dX0_throwBack_79 : decode cX0_throwBack 79 = .ok (.bipush 20, 2) := by decide +kernel
theorem dX0_throwBack_81 : decode cX0_throwBack 81 = .ok (.imul, 1) := by decide +kernel
theorem dX0_throwBack_82 : decode cX0_throwBack 82 = .ok (.iload_n 1, 1) := by decide +kernel
theorem dX0_throwBack_83 : decode cX0_throwBack 83 = .ok (.iadd, 1) := by decide +kernel
theorem dX0_throwBack_84 : decode cX0_throwBack 84 = .ok (.iaload, 1) := by decide +kernel
theorem dX0_throwBack_85 : decode cX0_throwBack 85 = .ok (.iconst 2, 1) := by decide +kernel
theorem dX0_throwBack_86 : decode cX0_throwBack 86 = .ok (.idiv, 1) := by decide +kernel
theorem dX0_throwBack_87 : decode cX0_throwBack 87 = .ok (.isub, 1) := by decide +kernel
theorem dX0_throwBack_88 : decode cX0_throwBack 88 = .ok (.iadd, 1) := by decide +kernel
theorem dX0_throwBack_89 : decode cX0_throwBack 89 = .ok (.iastore, 1) := by decide +kernel
theorem dX0_throwBack_90 : decode cX0_throwBack 90 = .ok (.return_, 1) := by decide +kernel
theorem dX0_playMinute_0 : decode cX0_playMinute 0 = .ok (.iconst 0, 1) := by decide +kernel
theorem dX0_playMinute_1 : decode cX0_playMinute 1 = .ok (.istore_n 2, 1) := by decide +kernel
theorem dX0_playMinute_2 : decode cX0_playMinute 2 = .ok (.iload_n 2, 1) := by decide +kernel
theorem dX0_playMinute_3 : decode cX0_playMinute 3 = .ok (.aload_n 0, 1) := by decide +kernel
theorem dX0_playMinute_4 : decode cX0_playMinute 4 = .ok (.getfield 45, 3) := by decide +kernel
theorem dX0_playMinute_7 : decode cX0_playMinute 7 = .ok (.getfield 132, 3) := by decide +kernel
theorem dX0_playMinute_10 : decode cX0_playMinute 10 = .ok (.if_icmp .ge 35, 3) := by decide +kernel
theorem dX0_playMinute_13 : decode cX0_playMinute 13 = .ok (.aload_n 0, 1) := by decide +kernel
theorem dX0_playMinute_14 : decode cX0_playMinute 14 = .ok (.iload_n 2, 1) := by decide +kernel
theorem dX0_playMinute_15 : decode cX0_playMinute 15 = .ok (.iload_n 1, 1) := by decide +kernel
theorem dX0_playMinute_16 : decode cX0_playMinute 16 = .ok (.invokevirtual 135, 3) := by decide +kernel
theorem dX0_playMinute_19 : decode cX0_playMinute 19 = .ok (.istore_n 3, 1) := by decide +kernel
theorem dX0_playMinute_20 : decode cX0_playMinute 20 = .ok (.iload_n 3, 1) := by decide +kernel
theorem dX0_playMinute_21 : decode cX0_playMinute 21 = .ok (.iconst (-1), 1) := by decide +kernel
theorem dX0_playMinute_22 : decode cX0_playMinute 22 = .ok (.if_icmp .eq 17, 3) := by decide +kernel
theorem dX0_playMinute_25 : decode cX0_playMinute 25 = .ok (.aload_n 0, 1) := by decide +kernel
theorem dX0_playMinute_26 : decode cX0_playMinute 26 = .ok (.iload_n 2, 1) := by decide +kernel
theorem dX0_playMinute_27 : decode cX0_playMinute 27 = .ok (.aload_n 0, 1) := by decide +kernel
theorem dX0_playMinute_28 : decode cX0_playMinute 28 = .ok (.getfield 53, 3) := by decide +kernel
theorem dX0_playMinute_31 : decode cX0_playMinute 31 = .ok (.getfield 138, 3) := by decide +kernel
theorem dX0_playMinute_34 : decode cX0_playMinute 34 = .ok (.iload_n 3, 1) := by decide +kernel
theorem dX0_playMinute_35 : decode cX0_playMinute 35 = .ok (.iaload, 1) := by decide +kernel
theorem dX0_playMinute_36 : decode cX0_playMinute 36 = .ok (.invokevirtual 141, 3) := by decide +kernel
theorem dX0_playMinute_39 : decode cX0_playMinute 39 = .ok (.iinc 2 1, 3) := by decide +kernel
theorem dX0_playMinute_42 : decode cX0_playMinute 42 = .ok (.goto (-40), 3) := by decide +kernel
theorem dX0_playMinute_45 : decode cX0_playMinute 45 = .ok (.iconst 0, 1) := by decide +kernel
theorem dX0_playMinute_46 : decode cX0_playMinute 46 = .ok (.istore_n 2, 1) := by decide +kernel
theorem dX0_playMinute_47 : decode cX0_playMinute 47 = .ok (.iload_n 2, 1) := by decide +kernel
theorem dX0_playMinute_48 : decode cX0_playMinute 48 = .ok (.aload_n 0, 1) := by decide +kernel
theorem dX0_playMinute_49 : decode cX0_playMinute 49 = .ok (.getfield 73, 3) := by decide +kernel
theorem dX0_playMinute_52 : decode cX0_playMinute 52 = .ok (.if_icmp .ge 14, 3) := by decide +kernel
theorem dX0_playMinute_55 : decode cX0_playMinute 55 = .ok (.aload_n 0, 1) := by decide +kernel
theorem dX0_playMinute_56 : decode cX0_playMinute 56 = .ok (.iload_n 2, 1) := by decide +kernel
theorem dX0_playMinute_57 : decode cX0_playMinute 57 = .ok (.invokevirtual 145, 3) := by decide +kernel
theorem dX0_playMinute_60 : decode cX0_playMinute 60 = .ok (.iinc 2 1, 3) := by decide +kernel
theorem dX0_playMinute_63 : decode cX0_playMinute 63 = .ok (.goto (-16), 3) := by decide +kernel
theorem dX0_playMinute_66 : decode cX0_playMinute 66 = .ok (.aload_n 0, 1) := by decide +kernel
theorem dX0_playMinute_67 : decode cX0_playMinute 67 = .ok (.getfield 53, 3) := by decide +kernel
theorem dX0_playMinute_70 : decode cX0_playMinute 70 = .ok (.getfield 148, 3) := by decide +kernel
theorem dX0_playMinute_73 : decode cX0_playMinute 73 = .ok (.iload_n 1, 1) := by decide +kernel
theorem dX0_playMinute_74 : decode cX0_playMinute 74 = .ok (.iaload, 1) := by decide +kernel
theorem dX0_playMinute_75 : decode cX0_playMinute 75 = .ok (.istore_n 2, 1) := by decide +kernel
theorem dX0_playMinute_76 : decode cX0_playMinute 76 = .ok (.iload_n 2, 1) := by decide +kernel
theorem dX0_playMinute_77 : decode cX0_playMinute 77 = .ok (.aload_n 0, 1) := by decide +kernel
theorem dX0_playMinute_78 : decode cX0_playMinute 78 = .ok (.getfield 53, 3) := by decide +kernel
theorem dX0_playMinute_81 : decode cX0_playMinute 81 = .ok (.getfield 148, 3) := by decide +kernel
theorem dX0_playMinute_84 : decode cX0_playMinute 84 = .ok (.iload_n 1, 1) := by decide +kernel
theorem dX0_playMinute_85 : decode cX0_playMinute 85 = .ok (.iconst 1, 1) := by decide +kernel
theorem dX0_playMinute_86 : decode cX0_playMinute 86 = .ok (.iadd, 1) := by decide +kernel
theorem dX0_playMinute_87 : decode cX0_playMinute 87 = .ok (.iaload, 1) := by decide +kernel
theorem dX0_playMinute_88 : decode cX0_playMinute 88 = .ok (.if_icmp .ge 22, 3) := by decide +kernel
theorem dX0_playMinute_91 : decode cX0_playMinute 91 = .ok (.aload_n 0, 1) := by decide +kernel
theorem dX0_playMinute_92 : decode cX0_playMinute 92 = .ok (.aload_n 0, 1) := by decide +kernel
theorem dX0_playMinute_93 : decode cX0_playMinute 93 = .ok (.getfield 53, 3) := by decide +kernel
theorem dX0_playMinute_96 : decode cX0_playMinute 96 = .ok (.getfield 138, 3) := by decide +kernel
theorem dX0_playMinute_99 : decode cX0_playMinute 99 = .ok (.iload_n 2, 1) := by decide +kernel
theorem dX0_playMinute_100 : decode cX0_playMinute 100 = .ok (.iaload, 1) := by decide +kernel
theorem dX0_playMinute_101 : decode cX0_playMinute 101 = .ok (.invokevirtual 151, 3) := by decide +kernel
theorem dX0_playMinute_104 : decode cX0_playMinute 104 = .ok (.iinc 2 1, 3) := by decide +kernel
theorem dX0_playMinute_107 : decode cX0_playMinute 107 = .ok (.goto (-31), 3) := by decide +kernel
theorem dX0_playMinute_110 : decode cX0_playMinute 110 = .ok (.return_, 1) := by decide +kernel
theorem dX0_pass_0 : decode cX0_pass 0 = .ok (.iconst 0, 1) := by decide +kernel
theorem dX0_pass_1 : decode cX0_pass 1 = .ok (.istore_n 2, 1) := by decide +kernel
theorem dX0_pass_2 : decode cX0_pass 2 = .ok (.iload_n 2, 1) := by decide +kernel
theorem dX0_pass_3 : decode cX0_pass 3 = .ok (.iload_n 1, 1) := by decide +kernel
theorem dX0_pass_4 : decode cX0_pass 4 = .ok (.if_icmp .ge 97, 3) := by decide +kernel
theorem dX0_pass_7 : decode cX0_pass 7 = .ok (.aload_n 0, 1) := by decide +kernel
theorem dX0_pass_8 : decode cX0_pass 8 = .ok (.getfield 57, 3) := by decide +kernel
theorem dX0_pass_11 : decode cX0_pass 11 = .ok (.iconst 3, 1) := by decide +kernel
theorem dX0_pass_12 : decode cX0_pass 12 = .ok (.if_icmp .ge 89, 3) := by decide +kernel
theorem dX0_pass_15 : decode cX0_pass 15 = .ok (.aload_n 0, 1) := by decide +kernel
theorem dX0_pass_16 : decode cX0_pass 16 = .ok (.getfield 53, 3) := by decide +kernel
theorem dX0_pass_19 : decode cX0_pass 19 = .ok (.aload_n 0, 1) := by decide +kernel
theorem dX0_pass_20 : decode cX0_pass 20 = .ok (.getfield 61, 3) := by decide +kernel
theorem dX0_pass_23 : decode cX0_pass 23 = .ok (.iload_n 1, 1) := by decide +kernel
theorem dX0_pass_24 : decode cX0_pass 24 = .ok (.iload_n 2, 1) := by decide +kernel
theorem dX0_pass_25 : decode cX0_pass 25 = .ok (.isub, 1) := by decide +kernel
theorem dX0_pass_26 : decode cX0_pass 26 = .ok (.invokevirtual 99, 3) := by decide +kernel
theorem dX0_pass_29 : decode cX0_pass 29 = .ok (.istore_n 3, 1) := by decide +kernel
theorem dX0_pass_30 : decode cX0_pass 30 = .ok (.aload_n 0, 1) := by decide +kernel
theorem dX0_pass_31 : decode cX0_pass 31 = .ok (.iconst 0, 1) := by decide +kernel
theorem dX0_pass_32 : decode cX0_pass 32 = .ok (.putfield 73, 3) := by decide +kernel
theorem dX0_pass_35 : decode cX0_pass 35 = .ok (.iload_n 3, 1) := by decide +kernel
theorem dX0_pass_36 : decode cX0_pass 36 = .ok (.ifCond .ne 19, 3) := by decide +kernel
theorem dX0_pass_39 : decode cX0_pass 39 = .ok (.aload_n 0, 1) := by decide +kernel
theorem dX0_pass_40 : decode cX0_pass 40 = .ok (.aload_n 0, 1) := by decide +kernel
theorem dX0_pass_41 : decode cX0_pass 41 = .ok (.getfield 53, 3) := by decide +kernel
theorem dX0_pass_44 : decode cX0_pass 44 = .ok (.getfield 105, 3) := by decide +kernel
theorem dX0_pass_47 : decode cX0_pass 47 = .ok (.aload_n 0, 1) := by decide +kernel
theorem dX0_pass_48 : decode cX0_pass 48 = .ok (.getfield 61, 3) := by decide +kernel
theorem dX0_pass_51 : decode cX0_pass 51 = .ok (.iaload, 1) := by decide +kernel
theorem dX0_pass_52 : decode cX0_pass 52 = .ok (.invokevirtual 108, 3) := by decide +kernel
theorem dX0_pass_55 : decode cX0_pass 55 = .ok (.iload_n 3, 1) := by decide +kernel
theorem dX0_pass_56 : decode cX0_pass 56 = .ok (.iconst 1, 1) := by decide +kernel
theorem dX0_pass_57 : decode cX0_pass 57 = .ok (.invokestatic 112, 3) := by decide +kernel
theorem dX0_pass_60 : decode cX0_pass 60 = .ok (.istore 4, 2) := by decide +kernel
theorem dX0_pass_62 : decode cX0_pass 62 = .ok (.aload_n 0, 1) := by decide +kernel
theorem dX0_pass_63 : decode cX0_pass 63 = .ok (.iload 4, 2) := by decide +kernel
theorem dX0_pass_65 : decode cX0_pass 65 = .ok (.invokevirtual 117, 3) := by decide +kernel
theorem dX0_pass_68 : decode cX0_pass 68 = .ok (.iload_n 2, 1) := by decide +kernel
theorem dX0_pass_69 : decode cX0_pass 69 = .ok (.iload 4, 2) := by decide +kernel
theorem dX0_pass_71 : decode cX0_pass 71 = .ok (.iadd, 1) := by decide +kernel
theorem dX0_pass_72 : decode cX0_pass 72 = .ok (.istore_n 2, 1) := by decide +kernel
theorem dX0_pass_73 : decode cX0_pass 73 = .ok (.aload_n 0, 1) := by decide +kernel
theorem dX0_pass_74 : decode cX0_pass 74 = .ok (.dup, 1) := by decide +kernel
theorem dX0_pass_75 : decode cX0_pass 75 = .ok (.getfield 61, 3) := by decide +kernel
theorem dX0_pass_78 : decode cX0_pass 78 = .ok (.iload 4, 2) := by decide +kernel
theorem dX0_pass_80 : decode cX0_pass 80 = .ok (.iadd, 1) := by decide +kernel
theorem dX0_pass_81 : decode cX0_pass 81 = .ok (.putfield 61, 3) := by decide +kernel
theorem dX0_pass_84 : decode cX0_pass 84 = .ok (.aload_n 0, 1) := by decide +kernel
theorem dX0_pass_85 : decode cX0_pass 85 = .ok (.getfield 61, 3) := by decide +kernel
theorem dX0_pass_88 : decode cX0_pass 88 = .ok (.sipush 240, 3) := by decide +kernel
theorem dX0_pass_91 : decode cX0_pass 91 = .ok (.if_icmp .lt 7, 3) := by decide +kernel
theorem dX0_pass_94 : decode cX0_pass 94 = .ok (.aload_n 0, 1) := by decide +kernel
theorem dX0_pass_95 : decode cX0_pass 95 = .ok (.invokevirtual 120, 3) := by decide +kernel
theorem dX0_pass_98 : decode cX0_pass 98 = .ok (.goto (-96), 3) := by decide +kernel
theorem dX0_pass_101 : decode cX0_pass 101 = .ok (.iload_n 2, 1) := by decide +kernel
theorem dX0_pass_102 : decode cX0_pass 102 = .ok (.ireturn, 1) := by decide +kernel
theorem dX0_aimedAt_0 : decode cX0_aimedAt 0 = .ok (.iload_n 2, 1) := by decide +kernel
theorem dX0_aimedAt_1 : decode cX0_aimedAt 1 = .ok (.ifCond .lt 23, 3) := by decide +kernel
theorem dX0_aimedAt_4 : decode cX0_aimedAt 4 = .ok (.iload_n 2, 1) := by decide +kernel
theorem dX0_aimedAt_5 : decode cX0_aimedAt 5 = .ok (.sipush 240, 3) := by decide +kernel
theorem dX0_aimedAt_8 : decode cX0_aimedAt 8 = .ok (.if_icmp .ge 16, 3) := by decide +kernel
theorem dX0_aimedAt_11 : decode cX0_aimedAt 11 = .ok (.aload_n 0, 1) := by decide +kernel
theorem dX0_aimedAt_12 : decode cX0_aimedAt 12 = .ok (.getfield 53, 3) := by decide +kernel
theorem dX0_aimedAt_15 : decode cX0_aimedAt 15 = .ok (.getfield 105, 3) := by decide +kernel
theorem dX0_aimedAt_18 : decode cX0_aimedAt 18 = .ok (.iload_n 2, 1) := by decide +kernel
theorem dX0_aimedAt_19 : decode cX0_aimedAt 19 = .ok (.iaload, 1) := by decide +kernel
theorem dX0_aimedAt_20 : decode cX0_aimedAt 20 = .ok (.iconst (-1), 1) := by decide +kernel
theorem dX0_aimedAt_21 : decode cX0_aimedAt 21 = .ok (.if_icmp .ne 5, 3) := by decide +kernel
theorem dX0_aimedAt_24 : decode cX0_aimedAt 24 = .ok (.iconst (-1), 1) := by decide +kernel
theorem dX0_aimedAt_25 : decode cX0_aimedAt 25 = .ok (.ireturn, 1) := by decide +kernel
theorem dX0_aimedAt_26 : decode cX0_aimedAt 26 = .ok (.aload_n 0, 1) := by decide +kernel
theorem dX0_aimedAt_27 : decode cX0_aimedAt 27 = .ok (.iload_n 1, 1) := by decide +kernel
theorem dX0_aimedAt_28 : decode cX0_aimedAt 28 = .ok (.aload_n 0, 1) := by decide +kernel
theorem dX0_aimedAt_29 : decode cX0_aimedAt 29 = .ok (.getfield 53, 3) := by decide +kernel
theorem dX0_aimedAt_32 : decode cX0_aimedAt 32 = .ok (.getfield 105, 3) := by decide +kernel
theorem dX0_aimedAt_35 : decode cX0_aimedAt 35 = .ok (.iload_n 2, 1) := by decide +kernel
theorem dX0_aimedAt_36 : decode cX0_aimedAt 36 = .ok (.iaload, 1) := by decide +kernel
theorem dX0_aimedAt_37 : decode cX0_aimedAt 37 = .ok (.invokevirtual 135, 3) := by decide +kernel
theorem dX0_aimedAt_40 : decode cX0_aimedAt 40 = .ok (.istore_n 3, 1) := by decide +kernel
theorem dX0_aimedAt_41 : decode cX0_aimedAt 41 = .ok (.iload_n 3, 1) := by decide +kernel
theorem dX0_aimedAt_42 : decode cX0_aimedAt 42 = .ok (.iconst (-1), 1) := by decide +kernel
theorem dX0_aimedAt_43 : decode cX0_aimedAt 43 = .ok (.if_icmp .ne 7, 3) := by decide +kernel
theorem dX0_aimedAt_46 : decode cX0_aimedAt 46 = .ok (.iconst (-1), 1) := by decide +kernel
theorem dX0_aimedAt_47 : decode cX0_aimedAt 47 = .ok (.goto 12, 3) := by decide +kernel
theorem dX0_aimedAt_50 : decode cX0_aimedAt 50 = .ok (.aload_n 0, 1) := by decide +kernel
theorem dX0_aimedAt_51 : decode cX0_aimedAt 51 = .ok (.getfield 53, 3) := by decide +kernel
theorem dX0_aimedAt_54 : decode cX0_aimedAt 54 = .ok (.getfield 138, 3) := by decide +kernel
theorem dX0_aimedAt_57 : decode cX0_aimedAt 57 = .ok (.iload_n 3, 1) := by decide +kernel
theorem dX0_aimedAt_58 : decode cX0_aimedAt 58 = .ok (.iaload, 1) := by decide +kernel
theorem dX0_aimedAt_59 : decode cX0_aimedAt 59 = .ok (.ireturn, 1) := by decide +kernel
theorem dX0_wouldJoin_0 : decode cX0_wouldJoin 0 = .ok (.aload_n 0, 1) := by decide +kernel
theorem dX0_wouldJoin_1 : decode cX0_wouldJoin 1 = .ok (.iload_n 1, 1) := by decide +kernel
theorem dX0_wouldJoin_2 : decode cX0_wouldJoin 2 = .ok (.aload_n 0, 1) := by decide +kernel
theorem dX0_wouldJoin_3 : decode cX0_wouldJoin 3 = .ok (.getfield 61, 3) := by decide +kernel
theorem dX0_wouldJoin_6 : decode cX0_wouldJoin 6 = .ok (.invokevirtual 170, 3) := by decide +kernel
theorem dX0_wouldJoin_9 : decode cX0_wouldJoin 9 = .ok (.istore_n 3, 1) := by decide +kernel
theorem dX0_wouldJoin_10 : decode cX0_wouldJoin 10 = .ok (.iload_n 1, 1) := by decide +kernel
theorem dX0_wouldJoin_11 : decode cX0_wouldJoin 11 = .ok (.iload_n 2, 1) := by decide +kernel
theorem dX0_wouldJoin_12 : decode cX0_wouldJoin 12 = .ok (.if_icmp .eq 25, 3) := by decide +kernel
theorem dX0_wouldJoin_15 : decode cX0_wouldJoin 15 = .ok (.iload_n 3, 1) := by decide +kernel
theorem dX0_wouldJoin_16 : decode cX0_wouldJoin 16 = .ok (.iconst (-1), 1) := by decide +kernel
theorem dX0_wouldJoin_17 : decode cX0_wouldJoin 17 = .ok (.if_icmp .eq 20, 3) := by decide +kernel
theorem dX0_wouldJoin_20 : decode cX0_wouldJoin 20 = .ok (.iload_n 3, 1) := by decide +kernel
theorem dX0_wouldJoin_21 : decode cX0_wouldJoin 21 = .ok (.aload_n 0, 1) := by decide +kernel
theorem dX0_wouldJoin_22 : decode cX0_wouldJoin 22 = .ok (.iload_n 2, 1) := by decide +kernel
theorem dX0_wouldJoin_23 : decode cX0_wouldJoin 23 = .ok (.aload_n 0, 1) := by decide +kernel
theorem dX0_wouldJoin_24 : decode cX0_wouldJoin 24 = .ok (.getfield 61, 3) := by decide +kernel
theorem dX0_wouldJoin_27 : decode cX0_wouldJoin 27 = .ok (.invokevirtual 170, 3) := by decide +kernel
theorem dX0_wouldJoin_30 : decode cX0_wouldJoin 30 = .ok (.if_icmp .ne 7, 3) := by decide +kernel
theorem dX0_wouldJoin_33 : decode cX0_wouldJoin 33 = .ok (.iconst 1, 1) := by decide +kernel
theorem dX0_wouldJoin_34 : decode cX0_wouldJoin 34 = .ok (.goto 4, 3) := by decide +kernel
theorem dX0_wouldJoin_37 : decode cX0_wouldJoin 37 = .ok (.iconst 0, 1) := by decide +kernel
theorem dX0_wouldJoin_38 : decode cX0_wouldJoin 38 = .ok (.ireturn, 1) := by decide +kernel
theorem dX0_allPulp_0 : decode cX0_allPulp 0 = .ok (.iconst 0, 1) := by decide +kernel
theorem dX0_allPulp_1 : decode cX0_allPulp 1 = .ok (.istore_n 1, 1) := by decide +kernel
theorem dX0_allPulp_2 : decode cX0_allPulp 2 = .ok (.iconst 0, 1) := by decide +kernel
theorem dX0_allPulp_3 : decode cX0_allPulp 3 = .ok (.istore_n 2, 1) := by decide +kernel
theorem dX0_allPulp_4 : decode cX0_allPulp 4 = .ok (.iload_n 2, 1) := by decide +kernel
theorem dX0_allPulp_5 : decode cX0_allPulp 5 = .ok (.bipush 100, 2) := by decide +kernel
theorem dX0_allPulp_7 : decode cX0_allPulp 7 = .ok (.if_icmp .ge 18, 3) := by decide +kernel
theorem dX0_allPulp_10 : decode cX0_allPulp 10 = .ok (.iload_n 1, 1) := by decide +kernel
theorem dX0_allPulp_11 : decode cX0_allPulp 11 = .ok (.aload_n 0, 1) := by decide +kernel
theorem dX0_allPulp_12 : decode cX0_allPulp 12 = .ok (.getfield 36, 3) := by decide +kernel
theorem dX0_allPulp_15 : decode cX0_allPulp 15 = .ok (.iload_n 2, 1) := by decide +kernel
theorem dX0_allPulp_16 : decode cX0_allPulp 16 = .ok (.iaload, 1) := by decide +kernel
theorem dX0_allPulp_17 : decode cX0_allPulp 17 = .ok (.iadd, 1) := by decide +kernel
theorem dX0_allPulp_18 : decode cX0_allPulp 18 = .ok (.istore_n 1, 1) := by decide +kernel
theorem dX0_allPulp_19 : decode cX0_allPulp 19 = .ok (.iinc 2 1, 3) := by decide +kernel
theorem dX0_allPulp_22 : decode cX0_allPulp 22 = .ok (.goto (-18), 3) := by decide +kernel
theorem dX0_allPulp_25 : decode cX0_allPulp 25 = .ok (.iload_n 1, 1) := by decide +kernel
theorem dX0_allPulp_26 : decode cX0_allPulp 26 = .ok (.ireturn, 1) := by decide +kernel
theorem dX0_throwersOf_0 : decode cX0_throwersOf 0 = .ok (.iconst 0, 1) := by decide +kernel
theorem dX0_throwersOf_1 : decode cX0_throwersOf 1 = .ok (.istore_n 3, 1) := by decide +kernel
theorem dX0_throwersOf_2 : decode cX0_throwersOf 2 = .ok (.iconst 0, 1) := by decide +kernel
theorem dX0_throwersOf_3 : decode cX0_throwersOf 3 = .ok (.istore 4, 2) := by decide +kernel
theorem dX0_throwersOf_5 : decode cX0_throwersOf 5 = .ok (.iload 4, 2) := by decide +kernel
theorem dX0_throwersOf_7 : decode cX0_throwersOf 7 = .ok (.aload_n 0, 1) := by decide +kernel
theorem dX0_throwersOf_8 : decode cX0_throwersOf 8 = .ok (.getfield 45, 3) := by decide +kernel
theorem dX0_throwersOf_11 : decode cX0_throwersOf 11 = .ok (.getfield 132, 3) := by decide +kernel
theorem dX0_throwersOf_14 : decode cX0_throwersOf 14 = .ok (.if_icmp .ge 79, 3) := by decide +kernel
theorem dX0_throwersOf_17 : decode cX0_throwersOf 17 = .ok (.aload_n 0, 1) := by decide +kernel
theorem dX0_throwersOf_18 : decode cX0_throwersOf 18 = .ok (.getfield 53, 3) := by decide +kernel
theorem dX0_throwersOf_21 : decode cX0_throwersOf 21 = .ok (.getfield 173, 3) := by decide +kernel
theorem dX0_throwersOf_24 : decode cX0_throwersOf 24 = .ok (.iload 4, 2) := by decide +kernel
theorem dX0_throwersOf_26 : decode cX0_throwersOf 26 = .ok (.bipush 20, 2) := by decide +kernel
theorem dX0_throwersOf_28 : decode cX0_throwersOf 28 = .ok (.imul, 1) := by decide +kernel
theorem dX0_throwersOf_29 : decode cX0_throwersOf 29 = .ok (.iload_n 1, 1) := by decide +kernel
theorem dX0_throwersOf_30 : decode cX0_throwersOf 30 = .ok (.iadd, 1) := by decide +kernel
theorem dX0_throwersOf_31 : decode cX0_throwersOf 31 = .ok (.iaload, 1) := by decide +kernel
theorem dX0_throwersOf_32 : decode cX0_throwersOf 32 = .ok (.istore 5, 2) := by decide +kernel
theorem dX0_throwersOf_34 : decode cX0_throwersOf 34 = .ok (.aload_n 0, 1) := by decide +kernel
theorem dX0_throwersOf_35 : decode cX0_throwersOf 35 = .ok (.getfield 15, 3) := by decide +kernel
theorem dX0_throwersOf_38 : decode cX0_throwersOf 38 = .ok (.iload 4, 2) := by decide +kernel
theorem dX0_throwersOf_40 : decode cX0_throwersOf 40 = .ok (.iaload, 1) := by decide +kernel
theorem dX0_throwersOf_41 : decode cX0_throwersOf 41 = .ok (.ifCond .le 46, 3) := by decide +kernel
theorem dX0_throwersOf_44 : decode cX0_throwersOf 44 = .ok (.aload_n 0, 1) := by decide +kernel
theorem dX0_throwersOf_45 : decode cX0_throwersOf 45 = .ok (.getfield 53, 3) := by decide +kernel
theorem dX0_throwersOf_48 : decode cX0_throwersOf 48 = .ok (.iload_n 1, 1) := by decide +kernel
theorem dX0_throwersOf_49 : decode cX0_throwersOf 49 = .ok (.iload 5, 2) := by decide +kernel
theorem dX0_throwersOf_51 : decode cX0_throwersOf 51 = .ok (.invokevirtual 198, 3) := by decide +kernel
theorem dX0_throwersOf_54 : decode cX0_throwersOf 54 = .ok (.ifCond .ne 33, 3) := by decide +kernel
theorem dX0_throwersOf_57 : decode cX0_throwersOf 57 = .ok (.aload_n 0, 1) := by decide +kernel
theorem dX0_throwersOf_58 : decode cX0_throwersOf 58 = .ok (.getfield 45, 3) := by decide +kernel
theorem dX0_throwersOf_61 : decode cX0_throwersOf 61 = .ok (.iload 4, 2) := by decide +kernel
theorem dX0_throwersOf_63 : decode cX0_throwersOf 63 = .ok (.iload_n 1, 1) := by decide +kernel
theorem dX0_throwersOf_64 : decode cX0_throwersOf 64 = .ok (.iload 5, 2) := by decide +kernel
theorem dX0_throwersOf_66 : decode cX0_throwersOf 66 = .ok (.aload_n 0, 1) := by decide +kernel
theorem dX0_throwersOf_67 : decode cX0_throwersOf 67 = .ok (.getfield 24, 3) := by decide +kernel
theorem dX0_throwersOf_70 : decode cX0_throwersOf 70 = .ok (.iload 4, 2) := by decide +kernel
theorem dX0_throwersOf_72 : decode cX0_throwersOf 72 = .ok (.iaload, 1) := by decide +kernel
theorem dX0_throwersOf_73 : decode cX0_throwersOf 73 = .ok (.invokevirtual 187, 3) := by decide +kernel
theorem dX0_throwersOf_76 : decode cX0_throwersOf 76 = .ok (.iload_n 2, 1) := by decide +kernel
theorem dX0_throwersOf_77 : decode cX0_throwersOf 77 = .ok (.if_icmp .ne 10, 3) := by decide +kernel
theorem dX0_throwersOf_80 : decode cX0_throwersOf 80 = .ok (.iload_n 3, 1) := by decide +kernel
theorem dX0_throwersOf_81 : decode cX0_throwersOf 81 = .ok (.iconst 1, 1) := by decide +kernel
theorem dX0_throwersOf_82 : decode cX0_throwersOf 82 = .ok (.iload 4, 2) := by decide +kernel
theorem dX0_throwersOf_84 : decode cX0_throwersOf 84 = .ok (.ishl, 1) := by decide +kernel
theorem dX0_throwersOf_85 : decode cX0_throwersOf 85 = .ok (.ior, 1) := by decide +kernel
theorem dX0_throwersOf_86 : decode cX0_throwersOf 86 = .ok (.istore_n 3, 1) := by decide +kernel
theorem dX0_throwersOf_87 : decode cX0_throwersOf 87 = .ok (.iinc 4 1, 3) := by decide +kernel
theorem dX0_throwersOf_90 : decode cX0_throwersOf 90 = .ok (.goto (-85), 3) := by decide +kernel
theorem dX0_throwersOf_93 : decode cX0_throwersOf 93 = .ok (.iload_n 3, 1) := by decide +kernel
theorem dX0_throwersOf_94 : decode cX0_throwersOf 94 = .ok (.ireturn, 1) := by decide +kernel
theorem dX0_measure_0 : decode cX0_measure 0 = .ok (.iload_n 2, 1) := by decide +kernel
theorem dX0_measure_1 : decode cX0_measure 1 = .ok (.tableswitch 76 14 18 #[35, 42, 49, 56, 66], 35) := by decide +kernel
theorem dX0_measure_36 : decode cX0_measure 36 = .ok (.aload_n 0, 1) := by decide +kernel
theorem dX0_measure_37 : decode cX0_measure 37 = .ok (.getfield 15, 3) := by decide +kernel
theorem dX0_measure_40 : decode cX0_measure 40 = .ok (.iload_n 1, 1) := by decide +kernel
theorem dX0_measure_41 : decode cX0_measure 41 = .ok (.iaload, 1) := by decide +kernel
theorem dX0_measure_42 : decode cX0_measure 42 = .ok (.ireturn, 1) := by decide +kernel
theorem dX0_measure_43 : decode cX0_measure 43 = .ok (.aload_n 0, 1) := by decide +kernel
theorem dX0_measure_44 : decode cX0_measure 44 = .ok (.getfield 18, 3) := by decide +kernel
theorem dX0_measure_47 : decode cX0_measure 47 = .ok (.iload_n 1, 1) := by decide +kernel
theorem dX0_measure_48 : decode cX0_measure 48 = .ok (.iaload, 1) := by decide +kernel
theorem dX0_measure_49 : decode cX0_measure 49 = .ok (.ireturn, 1) := by decide +kernel
theorem dX0_measure_50 : decode cX0_measure 50 = .ok (.aload_n 0, 1) := by decide +kernel
theorem dX0_measure_51 : decode cX0_measure 51 = .ok (.getfield 21, 3) := by decide +kernel
theorem dX0_measure_54 : decode cX0_measure 54 = .ok (.iload_n 1, 1) := by decide +kernel
theorem dX0_measure_55 : decode cX0_measure 55 = .ok (.iaload, 1) := by decide +kernel
theorem dX0_measure_56 : decode cX0_measure 56 = .ok (.ireturn, 1) := by decide +kernel
theorem dX0_measure_57 : decode cX0_measure 57 = .ok (.aload_n 0, 1) := by decide +kernel
theorem dX0_measure_58 : decode cX0_measure 58 = .ok (.getfield 45, 3) := by decide +kernel
theorem dX0_measure_61 : decode cX0_measure 61 = .ok (.getfield 223, 3) := by decide +kernel
theorem dX0_measure_64 : decode cX0_measure 64 = .ok (.iload_n 1, 1) := by decide +kernel
theorem dX0_measure_65 : decode cX0_measure 65 = .ok (.iaload, 1) := by decide +kernel
theorem dX0_measure_66 : decode cX0_measure 66 = .ok (.ireturn, 1) := by decide +kernel
theorem dX0_measure_67 : decode cX0_measure 67 = .ok (.aload_n 0, 1) := by decide +kernel
theorem dX0_measure_68 : decode cX0_measure 68 = .ok (.getfield 53, 3) := by decide +kernel
theorem dX0_measure_71 : decode cX0_measure 71 = .ok (.getfield 213, 3) := by decide +kernel
theorem dX0_measure_74 : decode cX0_measure 74 = .ok (.iload_n 1, 1) := by decide +kernel
theorem dX0_measure_75 : decode cX0_measure 75 = .ok (.iaload, 1) := by decide +kernel
theorem dX0_measure_76 : decode cX0_measure 76 = .ok (.ireturn, 1) := by decide +kernel
theorem dX0_measure_77 : decode cX0_measure 77 = .ok (.iload_n 1, 1) := by decide +kernel
theorem dX0_measure_78 : decode cX0_measure 78 = .ok (.ireturn, 1) := by decide +kernel
