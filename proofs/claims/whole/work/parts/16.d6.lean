theorem dX10_feed_0 : decode cX10_feed 0 = .ok (.aload_n 0, 1) := by decide +kernel
theorem dX10_feed_1 : decode cX10_feed 1 = .ok (.getfield 12, 3) := by decide +kernel
theorem dX10_feed_4 : decode cX10_feed 4 = .ok (.invokevirtual 92, 3) := by decide +kernel
theorem dX10_feed_7 : decode cX10_feed 7 = .ok (.ifCond .ne 5, 3) := by decide +kernel
theorem dX10_feed_10 : decode cX10_feed 10 = .ok (.iconst (-1), 1) := by decide +kernel
theorem dX10_feed_11 : decode cX10_feed 11 = .ok (.ireturn, 1) := by decide +kernel
theorem dX10_feed_12 : decode cX10_feed 12 = .ok (.aload_n 0, 1) := by decide +kernel
theorem dX10_feed_13 : decode cX10_feed 13 = .ok (.getfield 12, 3) := by decide +kernel
theorem dX10_feed_16 : decode cX10_feed 16 = .ok (.iload_n 1, 1) := by decide +kernel
theorem dX10_feed_17 : decode cX10_feed 17 = .ok (.invokevirtual 96, 3) := by decide +kernel
theorem dX10_feed_20 : decode cX10_feed 20 = .ok (.aload_n 0, 1) := by decide +kernel
theorem dX10_feed_21 : decode cX10_feed 21 = .ok (.getfield 12, 3) := by decide +kernel
theorem dX10_feed_24 : decode cX10_feed 24 = .ok (.iload_n 2, 1) := by decide +kernel
theorem dX10_feed_25 : decode cX10_feed 25 = .ok (.invokevirtual 96, 3) := by decide +kernel
theorem dX10_feed_28 : decode cX10_feed 28 = .ok (.aload_n 0, 1) := by decide +kernel
theorem dX10_feed_29 : decode cX10_feed 29 = .ok (.getfield 12, 3) := by decide +kernel
theorem dX10_feed_32 : decode cX10_feed 32 = .ok (.iload_n 3, 1) := by decide +kernel
theorem dX10_feed_33 : decode cX10_feed 33 = .ok (.invokevirtual 96, 3) := by decide +kernel
theorem dX10_feed_36 : decode cX10_feed 36 = .ok (.aload_n 0, 1) := by decide +kernel
theorem dX10_feed_37 : decode cX10_feed 37 = .ok (.getfield 12, 3) := by decide +kernel
theorem dX10_feed_40 : decode cX10_feed 40 = .ok (.iload 4, 2) := by decide +kernel
theorem dX10_feed_42 : decode cX10_feed 42 = .ok (.invokevirtual 96, 3) := by decide +kernel
theorem dX10_feed_45 : decode cX10_feed 45 = .ok (.aload_n 0, 1) := by decide +kernel
theorem dX10_feed_46 : decode cX10_feed 46 = .ok (.getfield 12, 3) := by decide +kernel
theorem dX10_feed_49 : decode cX10_feed 49 = .ok (.iload 5, 2) := by decide +kernel
theorem dX10_feed_51 : decode cX10_feed 51 = .ok (.invokevirtual 96, 3) := by decide +kernel
theorem dX10_feed_54 : decode cX10_feed 54 = .ok (.aload_n 0, 1) := by decide +kernel
theorem dX10_feed_55 : decode cX10_feed 55 = .ok (.getfield 12, 3) := by decide +kernel
theorem dX10_feed_58 : decode cX10_feed 58 = .ok (.getfield 100, 3) := by decide +kernel
theorem dX10_feed_61 : decode cX10_feed 61 = .ok (.ireturn, 1) := by decide +kernel
theorem dX10_end_0 : decode cX10_end 0 = .ok (.iload_n 1, 1) := by decide +kernel
theorem dX10_end_1 : decode cX10_end 1 = .ok (.ifCond .lt 14, 3) := by decide +kernel
theorem dX10_end_4 : decode cX10_end 4 = .ok (.iload_n 1, 1) := by decide +kernel
theorem dX10_end_5 : decode cX10_end 5 = .ok (.aload_n 0, 1) := by decide +kernel
theorem dX10_end_6 : decode cX10_end 6 = .ok (.getfield 12, 3) := by decide +kernel
theorem dX10_end_9 : decode cX10_end 9 = .ok (.getfield 100, 3) := by decide +kernel
theorem dX10_end_12 : decode cX10_end 12 = .ok (.if_icmp .le 5, 3) := by decide +kernel
theorem dX10_end_15 : decode cX10_end 15 = .ok (.iconst 0, 1) := by decide +kernel
theorem dX10_end_16 : decode cX10_end 16 = .ok (.ireturn, 1) := by decide +kernel
theorem dX10_end_17 : decode cX10_end 17 = .ok (.aload_n 0, 1) := by decide +kernel
theorem dX10_end_18 : decode cX10_end 18 = .ok (.getfield 12, 3) := by decide +kernel
theorem dX10_end_21 : decode cX10_end 21 = .ok (.iload_n 1, 1) := by decide +kernel
theorem dX10_end_22 : decode cX10_end 22 = .ok (.putfield 100, 3) := by decide +kernel
theorem dX10_end_25 : decode cX10_end 25 = .ok (.iconst 1, 1) := by decide +kernel
theorem dX10_end_26 : decode cX10_end 26 = .ok (.ireturn, 1) := by decide +kernel
theorem dX10_closeText_0 : decode cX10_closeText 0 = .ok (.aload_n 0, 1) := by decide +kernel
theorem dX10_closeText_1 : decode cX10_closeText 1 = .ok (.iload_n 1, 1) := by decide +kernel
theorem dX10_closeText_2 : decode cX10_closeText 2 = .ok (.ifCond .eq 7, 3) := by decide +kernel
theorem dX10_closeText_5 : decode cX10_closeText 5 = .ok (.iconst 0, 1) := by decide +kernel
theorem dX10_closeText_6 : decode cX10_closeText 6 = .ok (.goto 10, 3) := by decide +kernel
theorem dX10_closeText_9 : decode cX10_closeText 9 = .ok (.aload_n 0, 1) := by decide +kernel
theorem dX10_closeText_10 : decode cX10_closeText 10 = .ok (.getfield 12, 3) := by decide +kernel
theorem dX10_closeText_13 : decode cX10_closeText 13 = .ok (.getfield 338, 3) := by decide +kernel
theorem dX10_closeText_16 : decode cX10_closeText 16 = .ok (.putfield 139, 3) := by decide +kernel
theorem dX10_closeText_19 : decode cX10_closeText 19 = .ok (.aload_n 0, 1) := by decide +kernel
theorem dX10_closeText_20 : decode cX10_closeText 20 = .ok (.getfield 12, 3) := by decide +kernel
theorem dX10_closeText_23 : decode cX10_closeText 23 = .ok (.iconst 0, 1) := by decide +kernel
theorem dX10_closeText_24 : decode cX10_closeText 24 = .ok (.putfield 100, 3) := by decide +kernel
theorem dX10_closeText_27 : decode cX10_closeText 27 = .ok (.iload_n 1, 1) := by decide +kernel
theorem dX10_closeText_28 : decode cX10_closeText 28 = .ok (.ifCond .eq 7, 3) := by decide +kernel
theorem dX10_closeText_31 : decode cX10_closeText 31 = .ok (.iload_n 2, 1) := by decide +kernel
theorem dX10_closeText_32 : decode cX10_closeText 32 = .ok (.goto 12, 3) := by decide +kernel
theorem dX10_closeText_35 : decode cX10_closeText 35 = .ok (.iconst (-1), 1) := by decide +kernel
theorem dX10_closeText_36 : decode cX10_closeText 36 = .ok (.aload_n 0, 1) := by decide +kernel
theorem dX10_closeText_37 : decode cX10_closeText 37 = .ok (.getfield 12, 3) := by decide +kernel
theorem dX10_closeText_40 : decode cX10_closeText 40 = .ok (.getfield 339, 3) := by decide +kernel
theorem dX10_closeText_43 : decode cX10_closeText 43 = .ok (.isub, 1) := by decide +kernel
theorem dX10_closeText_44 : decode cX10_closeText 44 = .ok (.ireturn, 1) := by decide +kernel
theorem dX10_town_0 : decode cX10_town 0 = .ok (.aload_n 0, 1) := by decide +kernel
theorem dX10_town_1 : decode cX10_town 1 = .ok (.getfield 34, 3) := by decide +kernel
theorem dX10_town_4 : decode cX10_town 4 = .ok (.aload_n 0, 1) := by decide +kernel
theorem dX10_town_5 : decode cX10_town 5 = .ok (.getfield 12, 3) := by decide +kernel
theorem dX10_town_8 : decode cX10_town 8 = .ok (.invokevirtual 104, 3) := by decide +kernel
theorem dX10_town_11 : decode cX10_town 11 = .ok (.istore_n 1, 1) := by decide +kernel
theorem dX10_town_12 : decode cX10_town 12 = .ok (.iload_n 1, 1) := by decide +kernel
theorem dX10_town_13 : decode cX10_town 13 = .ok (.ifCond .eq 14, 3) := by decide +kernel
theorem dX10_town_16 : decode cX10_town 16 = .ok (.aload_n 0, 1) := by decide +kernel
theorem dX10_town_17 : decode cX10_town 17 = .ok (.getfield 19, 3) := by decide +kernel
theorem dX10_town_20 : decode cX10_town 20 = .ok (.aload_n 0, 1) := by decide +kernel
theorem dX10_town_21 : decode cX10_town 21 = .ok (.getfield 34, 3) := by decide +kernel
theorem dX10_town_24 : decode cX10_town 24 = .ok (.invokevirtual 108, 3) := by decide +kernel
theorem dX10_town_27 : decode cX10_town 27 = .ok (.aload_n 0, 1) := by decide +kernel
theorem dX10_town_28 : decode cX10_town 28 = .ok (.iload_n 1, 1) := by decide +kernel
theorem dX10_town_29 : decode cX10_town 29 = .ok (.aload_n 0, 1) := by decide +kernel
theorem dX10_town_30 : decode cX10_town 30 = .ok (.getfield 34, 3) := by decide +kernel
theorem dX10_town_33 : decode cX10_town 33 = .ok (.getfield 112, 3) := by decide +kernel
theorem dX10_town_36 : decode cX10_town 36 = .ok (.invokevirtual 115, 3) := by decide +kernel
theorem dX10_town_39 : decode cX10_town 39 = .ok (.ireturn, 1) := by decide +kernel
theorem dX10_plans_0 : decode cX10_plans 0 = .ok (.aload_n 0, 1) := by decide +kernel
theorem dX10_plans_1 : decode cX10_plans 1 = .ok (.getfield 41, 3) := by decide +kernel
theorem dX10_plans_4 : decode cX10_plans 4 = .ok (.aload_n 0, 1) := by decide +kernel
theorem dX10_plans_5 : decode cX10_plans 5 = .ok (.getfield 12, 3) := by decide +kernel
theorem dX10_plans_8 : decode cX10_plans 8 = .ok (.aload_n 0, 1) := by decide +kernel
theorem dX10_plans_9 : decode cX10_plans 9 = .ok (.getfield 19, 3) := by decide +kernel
theorem dX10_plans_12 : decode cX10_plans 12 = .ok (.getfield 54, 3) := by decide +kernel
theorem dX10_plans_15 : decode cX10_plans 15 = .ok (.invokevirtual 119, 3) := by decide +kernel
theorem dX10_plans_18 : decode cX10_plans 18 = .ok (.istore_n 1, 1) := by decide +kernel
theorem dX10_plans_19 : decode cX10_plans 19 = .ok (.iload_n 1, 1) := by decide +kernel
theorem dX10_plans_20 : decode cX10_plans 20 = .ok (.ifCond .eq 17, 3) := by decide +kernel
theorem dX10_plans_23 : decode cX10_plans 23 = .ok (.aload_n 0, 1) := by decide +kernel
theorem dX10_plans_24 : decode cX10_plans 24 = .ok (.getfield 19, 3) := by decide +kernel
theorem dX10_plans_27 : decode cX10_plans 27 = .ok (.getfield 57, 3) := by decide +kernel
theorem dX10_plans_30 : decode cX10_plans 30 = .ok (.aload_n 0, 1) := by decide +kernel
theorem dX10_plans_31 : decode cX10_plans 31 = .ok (.getfield 41, 3) := by decide +kernel
theorem dX10_plans_34 : decode cX10_plans 34 = .ok (.invokevirtual 122, 3) := by decide +kernel
theorem dX10_plans_37 : decode cX10_plans 37 = .ok (.aload_n 0, 1) := by decide +kernel
theorem dX10_plans_38 : decode cX10_plans 38 = .ok (.iload_n 1, 1) := by decide +kernel
theorem dX10_plans_39 : decode cX10_plans 39 = .ok (.aload_n 0, 1) := by decide +kernel
theorem dX10_plans_40 : decode cX10_plans 40 = .ok (.getfield 41, 3) := by decide +kernel
theorem dX10_plans_43 : decode cX10_plans 43 = .ok (.getfield 126, 3) := by decide +kernel
theorem dX10_plans_46 : decode cX10_plans 46 = .ok (.invokevirtual 115, 3) := by decide +kernel
theorem dX10_plans_49 : decode cX10_plans 49 = .ok (.ireturn, 1) := by decide +kernel
theorem dX10_fault_0 : decode cX10_fault 0 = .ok (.aload_n 0, 1) := by decide +kernel
theorem dX10_fault_1 : decode cX10_fault 1 = .ok (.getfield 139, 3) := by decide +kernel
theorem dX10_fault_4 : decode cX10_fault 4 = .ok (.ireturn, 1) := by decide +kernel
theorem dX10_isQuarter_0 : decode cX10_isQuarter 0 = .ok (.iload_n 1, 1) := by decide +kernel
theorem dX10_isQuarter_1 : decode cX10_isQuarter 1 = .ok (.ifCond .lt 21, 3) := by decide +kernel
theorem dX10_isQuarter_4 : decode cX10_isQuarter 4 = .ok (.iload_n 1, 1) := by decide +kernel
theorem dX10_isQuarter_5 : decode cX10_isQuarter 5 = .ok (.aload_n 0, 1) := by decide +kernel
theorem dX10_isQuarter_6 : decode cX10_isQuarter 6 = .ok (.getfield 19, 3) := by decide +kernel
theorem dX10_isQuarter_9 : decode cX10_isQuarter 9 = .ok (.getfield 54, 3) := by decide +kernel
theorem dX10_isQuarter_12 : decode cX10_isQuarter 12 = .ok (.getfield 316, 3) := by decide +kernel
theorem dX10_isQuarter_15 : decode cX10_isQuarter 15 = .ok (.if_icmp .ge 7, 3) := by decide +kernel
theorem dX10_isQuarter_18 : decode cX10_isQuarter 18 = .ok (.iconst 1, 1) := by decide +kernel
theorem dX10_isQuarter_19 : decode cX10_isQuarter 19 = .ok (.goto 4, 3) := by decide +kernel
theorem dX10_isQuarter_22 : decode cX10_isQuarter 22 = .ok (.iconst 0, 1) := by decide +kernel
theorem dX10_isQuarter_23 : decode cX10_isQuarter 23 = .ok (.ireturn, 1) := by decide +kernel
theorem dX10_quarterNow_0 : decode cX10_quarterNow 0 = .ok (.iload_n 2, 1) := by decide +kernel
theorem dX10_quarterNow_1 : decode cX10_quarterNow 1 = .ok (.tableswitch 100 0 4 #[35, 48, 61, 74, 87], 35) := by decide +kernel
theorem dX10_quarterNow_36 : decode cX10_quarterNow 36 = .ok (.aload_n 0, 1) := by decide +kernel
theorem dX10_quarterNow_37 : decode cX10_quarterNow 37 = .ok (.getfield 19, 3) := by decide +kernel
theorem dX10_quarterNow_40 : decode cX10_quarterNow 40 = .ok (.getfield 54, 3) := by decide +kernel
theorem dX10_quarterNow_43 : decode cX10_quarterNow 43 = .ok (.getfield 342, 3) := by decide +kernel
theorem dX10_quarterNow_46 : decode cX10_quarterNow 46 = .ok (.iload_n 1, 1) := by decide +kernel
theorem dX10_quarterNow_47 : decode cX10_quarterNow 47 = .ok (.iaload, 1) := by decide +kernel
theorem dX10_quarterNow_48 : decode cX10_quarterNow 48 = .ok (.ireturn, 1) := by decide +kernel
theorem dX10_quarterNow_49 : decode cX10_quarterNow 49 = .ok (.aload_n 0, 1) := by decide +kernel
theorem dX10_quarterNow_50 : decode cX10_quarterNow 50 = .ok (.getfield 19, 3) := by decide +kernel
theorem dX10_quarterNow_53 : decode cX10_quarterNow 53 = .ok (.getfield 54, 3) := by decide +kernel
theorem dX10_quarterNow_56 : decode cX10_quarterNow 56 = .ok (.getfield 345, 3) := by decide +kernel
theorem dX10_quarterNow_59 : decode cX10_quarterNow 59 = .ok (.iload_n 1, 1) := by decide +kernel
theorem dX10_quarterNow_60 : decode cX10_quarterNow 60 = .ok (.iaload, 1) := by decide +kernel
theorem dX10_quarterNow_61 : decode cX10_quarterNow 61 = .ok (.ireturn, 1) := by decide +kernel
theorem dX10_quarterNow_62 : decode cX10_quarterNow 62 = .ok (.aload_n 0, 1) := by decide +kernel
theorem dX10_quarterNow_63 : decode cX10_quarterNow 63 = .ok (.getfield 19, 3) := by decide +kernel
theorem dX10_quarterNow_66 : decode cX10_quarterNow 66 = .ok (.getfield 166, 3) := by decide +kernel
theorem dX10_quarterNow_69 : decode cX10_quarterNow 69 = .ok (.getfield 348, 3) := by decide +kernel
theorem dX10_quarterNow_72 : decode cX10_quarterNow 72 = .ok (.iload_n 1, 1) := by decide +kernel
theorem dX10_quarterNow_73 : decode cX10_quarterNow 73 = .ok (.iaload, 1) := by decide +kernel
theorem dX10_quarterNow_74 : decode cX10_quarterNow 74 = .ok (.ireturn, 1) := by decide +kernel
theorem dX10_quarterNow_75 : decode cX10_quarterNow 75 = .ok (.aload_n 0, 1) := by decide +kernel
theorem dX10_quarterNow_76 : decode cX10_quarterNow 76 = .ok (.getfield 19, 3) := by decide +kernel
theorem dX10_quarterNow_79 : decode cX10_quarterNow 79 = .ok (.getfield 166, 3) := by decide +kernel
theorem dX10_quarterNow_82 : decode cX10_quarterNow 82 = .ok (.getfield 310, 3) := by decide +kernel
theorem dX10_quarterNow_85 : decode cX10_quarterNow 85 = .ok (.iload_n 1, 1) := by decide +kernel
theorem dX10_quarterNow_86 : decode cX10_quarterNow 86 = .ok (.iaload, 1) := by decide +kernel
theorem dX10_quarterNow_87 : decode cX10_quarterNow 87 = .ok (.ireturn, 1) := by decide +kernel
theorem dX10_quarterNow_88 : decode cX10_quarterNow 88 = .ok (.aload_n 0, 1) := by decide +kernel
theorem dX10_quarterNow_89 : decode cX10_quarterNow 89 = .ok (.getfield 19, 3) := by decide +kernel
theorem dX10_quarterNow_92 : decode cX10_quarterNow 92 = .ok (.getfield 166, 3) := by decide +kernel
theorem dX10_quarterNow_95 : decode cX10_quarterNow 95 = .ok (.getfield 351, 3) := by decide +kernel
theorem dX10_quarterNow_98 : decode cX10_quarterNow 98 = .ok (.iload_n 1, 1) := by decide +kernel
theorem dX10_quarterNow_99 : decode cX10_quarterNow 99 = .ok (.iaload, 1) := by decide +kernel
theorem dX10_quarterNow_100 : decode cX10_quarterNow 100 = .ok (.ireturn, 1) := by decide +kernel
theorem dX10_quarterNow_101 : decode cX10_quarterNow 101 = .ok (.aload_n 0, 1) := by decide +kernel
theorem dX10_quarterNow_102 : decode cX10_quarterNow 102 = .ok (.getfield 19, 3) := by decide +kernel
theorem dX10_quarterNow_105 : decode cX10_quarterNow 105 = .ok (.getfield 166, 3) := by decide +kernel
theorem dX10_quarterNow_108 : decode cX10_quarterNow 108 = .ok (.getfield 354, 3) := by decide +kernel
theorem dX10_quarterNow_111 : decode cX10_quarterNow 111 = .ok (.iload_n 1, 1) := by decide +kernel
theorem dX10_quarterNow_112 : decode cX10_quarterNow 112 = .ok (.iaload, 1) := by decide +kernel
theorem dX10_quarterNow_113 : decode cX10_quarterNow 113 = .ok (.ireturn, 1) := by decide +kernel
theorem dX10_quarterTold_0 : decode cX10_quarterTold 0 = .ok (.iload_n 2, 1) := by decide +kernel
theorem dX10_quarterTold_1 : decode cX10_quarterTold 1 = .ok (.tableswitch 66 6 8 #[27, 40, 53], 27) := by decide +kernel
theorem dX10_quarterTold_28 : decode cX10_quarterTold 28 = .ok (.aload_n 0, 1) := by decide +kernel
theorem dX10_quarterTold_29 : decode cX10_quarterTold 29 = .ok (.getfield 19, 3) := by decide +kernel
theorem dX10_quarterTold_32 : decode cX10_quarterTold 32 = .ok (.getfield 57, 3) := by decide +kernel
theorem dX10_quarterTold_35 : decode cX10_quarterTold 35 = .ok (.getfield 357, 3) := by decide +kernel
theorem dX10_quarterTold_38 : decode cX10_quarterTold 38 = .ok (.iload_n 1, 1) := by decide +kernel
theorem dX10_quarterTold_39 : decode cX10_quarterTold 39 = .ok (.iaload, 1) := by decide +kernel
theorem dX10_quarterTold_40 : decode cX10_quarterTold 40 = .ok (.ireturn, 1) := by decide +kernel
theorem dX10_quarterTold_41 : decode cX10_quarterTold 41 = .ok (.aload_n 0, 1) := by decide +kernel
theorem dX10_quarterTold_42 : decode cX10_quarterTold 42 = .ok (.getfield 19, 3) := by decide +kernel
theorem dX10_quarterTold_45 : decode cX10_quarterTold 45 = .ok (.getfield 57, 3) := by decide +kernel
theorem dX10_quarterTold_48 : decode cX10_quarterTold 48 = .ok (.getfield 360, 3) := by decide +kernel
theorem dX10_quarterTold_51 : decode cX10_quarterTold 51 = .ok (.iload_n 1, 1) := by decide +kernel
theorem dX10_quarterTold_52 : decode cX10_quarterTold 52 = .ok (.iaload, 1) := by decide +kernel
theorem dX10_quarterTold_53 : decode cX10_quarterTold 53 = .ok (.ireturn, 1) := by decide +kernel
theorem dX10_quarterTold_54 : decode cX10_quarterTold 54 = .ok (.aload_n 0, 1) := by decide +kernel
theorem dX10_quarterTold_55 : decode cX10_quarterTold 55 = .ok (.getfield 19, 3) := by decide +kernel
theorem dX10_quarterTold_58 : decode cX10_quarterTold 58 = .ok (.getfield 57, 3) := by decide +kernel
theorem dX10_quarterTold_61 : decode cX10_quarterTold 61 = .ok (.getfield 363, 3) := by decide +kernel
theorem dX10_quarterTold_64 : decode cX10_quarterTold 64 = .ok (.iload_n 1, 1) := by decide +kernel
theorem dX10_quarterTold_65 : decode cX10_quarterTold 65 = .ok (.iaload, 1) := by decide +kernel
theorem dX10_quarterTold_66 : decode cX10_quarterTold 66 = .ok (.ireturn, 1) := by decide +kernel
theorem dX10_quarterTold_67 : decode cX10_quarterTold 67 = .ok (.aload_n 0, 1) := by decide +kernel
theorem dX10_quarterTold_68 : decode cX10_quarterTold 68 = .ok (.getfield 19, 3) := by decide +kernel
theorem dX10_quarterTold_71 : decode cX10_quarterTold 71 = .ok (.getfield 54, 3) := by decide +kernel
theorem dX10_quarterTold_74 : decode cX10_quarterTold 74 = .ok (.getfield 366, 3) := by decide +kernel
theorem dX10_quarterTold_77 : decode cX10_quarterTold 77 = .ok (.iload_n 1, 1) := by decide +kernel
theorem dX10_quarterTold_78 : decode cX10_quarterTold 78 = .ok (.iaload, 1) := by decide +kernel
theorem dX10_quarterTold_79 : decode cX10_quarterTold 79 = .ok (.ireturn, 1) := by decide +kernel
theorem dX10_isCart_0 : decode cX10_isCart 0 = .ok (.iload_n 1, 1) := by decide +kernel
theorem dX10_isCart_1 : decode cX10_isCart 1 = .ok (.ifCond .lt 21, 3) := by decide +kernel
theorem dX10_isCart_4 : decode cX10_isCart 4 = .ok (.iload_n 1, 1) := by decide +kernel
theorem dX10_isCart_5 : decode cX10_isCart 5 = .ok (.aload_n 0, 1) := by decide +kernel
theorem dX10_isCart_6 : decode cX10_isCart 6 = .ok (.getfield 19, 3) := by decide +kernel
theorem dX10_isCart_9 : decode cX10_isCart 9 = .ok (.getfield 54, 3) := by decide +kernel
theorem dX10_isCart_12 : decode cX10_isCart 12 = .ok (.getfield 332, 3) := by decide +kernel
theorem dX10_isCart_15 : decode cX10_isCart 15 = .ok (.if_icmp .ge 7, 3) := by decide +kernel
theorem dX10_isCart_18 : decode cX10_isCart 18 = .ok (.iconst 1, 1) := by decide +kernel
theorem dX10_isCart_19 : decode cX10_isCart 19 = .ok (.goto 4, 3) := by decide +kernel
theorem dX10_isCart_22 : decode cX10_isCart 22 = .ok (.iconst 0, 1) := by decide +kernel
theorem dX10_isCart_23 : decode cX10_isCart 23 = .ok (.ireturn, 1) := by decide +kernel
theorem dX10_begin_0 : decode cX10_begin 0 = .ok (.aload_n 0, 1) := by decide +kernel
theorem dX10_begin_1 : decode cX10_begin 1 = .ok (.getfield 19, 3) := by decide +kernel
theorem dX10_begin_4 : decode cX10_begin 4 = .ok (.getfield 166, 3) := by decide +kernel
theorem dX10_begin_7 : decode cX10_begin 7 = .ok (.iload_n 1, 1) := by decide +kernel
theorem dX10_begin_8 : decode cX10_begin 8 = .ok (.invokevirtual 201, 3) := by decide +kernel
theorem dX10_begin_11 : decode cX10_begin 11 = .ok (.return_, 1) := by decide +kernel
theorem dX10_on_0 : decode cX10_on 0 = .ok (.iload_n 1, 1) := by decide +kernel
theorem dX10_on_1 : decode cX10_on 1 = .ok (.iconst 1, 1) := by decide +kernel
theorem dX10_on_2 : decode cX10_on 2 = .ok (.if_icmp .lt 10, 3) := by decide +kernel
theorem dX10_on_5 : decode cX10_on 5 = .ok (.iload_n 1, 1) := by decide +kernel
theorem dX10_on_6 : decode cX10_on 6 = .ok (.sipush 720, 3) := by decide +kernel
theorem dX10_on_9 : decode cX10_on 9 = .ok (.if_icmp .le 7, 3) := by decide +kernel
theorem dX10_on_12 : decode cX10_on 12 = .ok (.iconst (-1), 1) := by decide +kernel
theorem dX10_on_13 : decode cX10_on 13 = .ok (.goto 14, 3) := by decide +kernel
theorem dX10_on_16 : decode cX10_on 16 = .ok (.aload_n 0, 1) := by decide +kernel
theorem dX10_on_17 : decode cX10_on 17 = .ok (.getfield 19, 3) := by decide +kernel
theorem dX10_on_20 : decode cX10_on 20 = .ok (.getfield 166, 3) := by decide +kernel
theorem dX10_on_23 : decode cX10_on 23 = .ok (.iload_n 1, 1) := by decide +kernel
theorem dX10_on_24 : decode cX10_on 24 = .ok (.invokevirtual 204, 3) := by decide +kernel
theorem dX10_on_27 : decode cX10_on 27 = .ok (.ireturn, 1) := by decide +kernel
theorem dX10_now_0 : decode cX10_now 0 = .ok (.aload_n 0, 1) := by decide +kernel
theorem dX10_now_1 : decode cX10_now 1 = .ok (.getfield 19, 3) := by decide +kernel
theorem dX10_now_4 : decode cX10_now 4 = .ok (.getfield 166, 3) := by decide +kernel
theorem dX10_now_7 : decode cX10_now 7 = .ok (.astore_n 2, 1) := by decide +kernel
theorem dX10_now_8 : decode cX10_now 8 = .ok (.iload_n 1, 1) := by decide +kernel
theorem dX10_now_9 : decode cX10_now 9 = .ok (.tableswitch 93 0 7 #[47, 52, 57, 62, 67, 74, 81, 88], 47) := by decide +kernel
theorem dX10_now_56 : decode cX10_now 56 = .ok (.aload_n 2, 1) := by decide +kernel
theorem dX10_now_57 : decode cX10_now 57 = .ok (.getfield 208, 3) := by decide +kernel
theorem dX10_now_60 : decode cX10_now 60 = .ok (.ireturn, 1) := by decide +kernel
theorem dX10_now_61 : decode cX10_now 61 = .ok (.aload_n 2, 1) := by decide +kernel
theorem dX10_now_62 : decode cX10_now 62 = .ok (.getfield 178, 3) := by decide +kernel
theorem dX10_now_65 : decode cX10_now 65 = .ok (.ireturn, 1) := by decide +kernel
theorem dX10_now_66 : decode cX10_now 66 = .ok (.aload_n 2, 1) := by decide +kernel
theorem dX10_now_67 : decode cX10_now 67 = .ok (.getfield 211, 3) := by decide +kernel
theorem dX10_now_70 : decode cX10_now 70 = .ok (.ireturn, 1) := by decide +kernel
theorem dX10_now_71 : decode cX10_now 71 = .ok (.aload_n 2, 1) := by decide +kernel
theorem dX10_now_72 : decode cX10_now 72 = .ok (.getfield 214, 3) := by decide +kernel
theorem dX10_now_75 : decode cX10_now 75 = .ok (.ireturn, 1) := by decide +kernel
theorem dX10_now_76 : decode cX10_now 76 = .ok (.aload_n 2, 1) := by decide +kernel
theorem dX10_now_77 : decode cX10_now 77 = .ok (.getfield 217, 3) := by decide +kernel
theorem dX10_now_80 : decode cX10_now 80 = .ok (.iconst 1, 1) := by decide +kernel
theorem dX10_now_81 : decode cX10_now 81 = .ok (.iaload, 1) := by decide +kernel
theorem dX10_now_82 : decode cX10_now 82 = .ok (.ireturn, 1) := by decide +kernel
theorem dX10_now_83 : decode cX10_now 83 = .ok (.aload_n 2, 1) := by decide +kernel
theorem dX10_now_84 : decode cX10_now 84 = .ok (.getfield 217, 3) := by decide +kernel
theorem dX10_now_87 : decode cX10_now 87 = .ok (.iconst 0, 1) := by decide +kernel
theorem dX10_now_88 : decode cX10_now 88 = .ok (.iaload, 1) := by decide +kernel
theorem dX10_now_89 : decode cX10_now 89 = .ok (.ireturn, 1) := by decide +kernel
theorem dX10_now_90 : decode cX10_now 90 = .ok (.aload_n 2, 1) := by decide +kernel
theorem dX10_now_91 : decode cX10_now 91 = .ok (.getfield 217, 3) := by decide +kernel
theorem dX10_now_94 : decode cX10_now 94 = .ok (.iconst 2, 1) := by decide +kernel
theorem dX10_now_95 : decode cX10_now 95 = .ok (.iaload, 1) := by decide +kernel
theorem dX10_now_96 : decode cX10_now 96 = .ok (.ireturn, 1) := by decide +kernel
theorem dX10_now_97 : decode cX10_now 97 = .ok (.aload_n 2, 1) := by decide +kernel
theorem dX10_now_98 : decode cX10_now 98 = .ok (.invokevirtual 220, 3) := by decide +kernel
theorem dX10_now_101 : decode cX10_now 101 = .ok (.ireturn, 1) := by decide +kernel
theorem dX10_now_102 : decode cX10_now 102 = .ok (.iconst (-1), 1) := by decide +kernel
theorem dX10_now_103 : decode cX10_now 103 = .ok (.ireturn, 1) := by decide +kernel
theorem dX10_thrown_0 : decode cX10_thrown 0 = .ok (.iload_n 1, 1) := by decide +kernel
theorem dX10_thrown_1 : decode cX10_thrown 1 = .ok (.ifCond .lt 27, 3) := by decide +kernel
theorem dX10_thrown_4 : decode cX10_thrown 4 = .ok (.iload_n 1, 1) := by decide +kernel
theorem dX10_thrown_5 : decode cX10_thrown 5 = .ok (.aload_n 0, 1) := by decide +kernel
theorem dX10_thrown_6 : decode cX10_thrown 6 = .ok (.getfield 19, 3) := by decide +kernel
theorem dX10_thrown_9 : decode cX10_thrown 9 = .ok (.getfield 166, 3) := by decide +kernel
theorem dX10_thrown_12 : decode cX10_thrown 12 = .ok (.getfield 224, 3) := by decide +kernel
theorem dX10_thrown_15 : decode cX10_thrown 15 = .ok (.if_icmp .ge 13, 3) := by decide +kernel
theorem dX10_thrown_18 : decode cX10_thrown 18 = .ok (.iload_n 2, 1) := by decide +kernel
theorem dX10_thrown_19 : decode cX10_thrown 19 = .ok (.ifCond .lt 9, 3) := by decide +kernel
theorem dX10_thrown_22 : decode cX10_thrown 22 = .ok (.iload_n 2, 1) := by decide +kernel
theorem dX10_thrown_23 : decode cX10_thrown 23 = .ok (.bipush 6, 2) := by decide +kernel
theorem dX10_thrown_25 : decode cX10_thrown 25 = .ok (.if_icmp .lt 5, 3) := by decide +kernel
theorem dX10_thrown_28 : decode cX10_thrown 28 = .ok (.iconst (-1), 1) := by decide +kernel
theorem dX10_thrown_29 : decode cX10_thrown 29 = .ok (.ireturn, 1) := by decide +kernel
theorem dX10_thrown_30 : decode cX10_thrown 30 = .ok (.aload_n 0, 1) := by decide +kernel
theorem dX10_thrown_31 : decode cX10_thrown 31 = .ok (.getfield 19, 3) := by decide +kernel
theorem dX10_thrown_34 : decode cX10_thrown 34 = .ok (.getfield 166, 3) := by decide +kernel
theorem dX10_thrown_37 : decode cX10_thrown 37 = .ok (.getfield 227, 3) := by decide +kernel
theorem dX10_thrown_40 : decode cX10_thrown 40 = .ok (.iload_n 1, 1) := by decide +kernel
theorem dX10_thrown_41 : decode cX10_thrown 41 = .ok (.bipush 6, 2) := by decide +kernel
theorem dX10_thrown_43 : decode cX10_thrown 43 = .ok (.imul, 1) := by decide +kernel
theorem dX10_thrown_44 : decode cX10_thrown 44 = .ok (.iload_n 2, 1) := by decide +kernel
theorem dX10_thrown_45 : decode cX10_thrown 45 = .ok (.iadd, 1) := by decide +kernel
theorem dX10_thrown_46 : decode cX10_thrown 46 = .ok (.iaload, 1) := by decide +kernel
theorem dX10_thrown_47 : decode cX10_thrown 47 = .ok (.ireturn, 1) := by decide +kernel
theorem dX10_sand_0 : decode cX10_sand 0 = .ok (.aload_n 0, 1) := by decide +kernel
theorem dX10_sand_1 : decode cX10_sand 1 = .ok (.getfield 19, 3) := by decide +kernel
theorem dX10_sand_4 : decode cX10_sand 4 = .ok (.getfield 54, 3) := by decide +kernel
theorem dX10_sand_7 : decode cX10_sand 7 = .ok (.iload_n 1, 1) := by decide +kernel
theorem dX10_sand_8 : decode cX10_sand 8 = .ok (.invokevirtual 186, 3) := by decide +kernel
theorem dX10_sand_11 : decode cX10_sand 11 = .ok (.ifCond .eq 18, 3) := by decide +kernel
theorem dX10_sand_14 : decode cX10_sand 14 = .ok (.aload_n 0, 1) := by decide +kernel
theorem dX10_sand_15 : decode cX10_sand 15 = .ok (.getfield 19, 3) := by decide +kernel
theorem dX10_sand_18 : decode cX10_sand 18 = .ok (.getfield 166, 3) := by decide +kernel
theorem dX10_sand_21 : decode cX10_sand 21 = .ok (.getfield 198, 3) := by decide +kernel
theorem dX10_sand_24 : decode cX10_sand 24 = .ok (.iload_n 1, 1) := by decide +kernel
theorem dX10_sand_25 : decode cX10_sand 25 = .ok (.iaload, 1) := by decide +kernel
theorem dX10_sand_26 : decode cX10_sand 26 = .ok (.ifCond .eq 5, 3) := by decide +kernel
theorem dX10_sand_29 : decode cX10_sand 29 = .ok (.iconst 0, 1) := by decide +kernel
theorem dX10_sand_30 : decode cX10_sand 30 = .ok (.ireturn, 1) := by decide +kernel
theorem dX10_sand_31 : decode cX10_sand 31 = .ok (.aload_n 0, 1) := by decide +kernel
theorem dX10_sand_32 : decode cX10_sand 32 = .ok (.getfield 19, 3) := by decide +kernel
theorem dX10_sand_35 : decode cX10_sand 35 = .ok (.getfield 166, 3) := by decide +kernel
theorem dX10_sand_38 : decode cX10_sand 38 = .ok (.getfield 198, 3) := by decide +kernel
theorem dX10_sand_41 : decode cX10_sand 41 = .ok (.iload_n 1, 1) := by decide +kernel
theorem dX10_sand_42 : decode cX10_sand 42 = .ok (.iconst 1, 1) := by decide +kernel
theorem dX10_sand_43 : decode cX10_sand 43 = .ok (.iastore, 1) := by decide +kernel
theorem dX10_sand_44 : decode cX10_sand 44 = .ok (.iconst 1, 1) := by decide +kernel
theorem dX10_sand_45 : decode cX10_sand 45 = .ok (.ireturn, 1) := by decide +kernel
theorem dX10_aims_0 : decode cX10_aims 0 = .ok (.aload_n 0, 1) := by decide +kernel
theorem dX10_aims_1 : decode cX10_aims 1 = .ok (.iload_n 1, 1) := by decide +kernel
theorem dX10_aims_2 : decode cX10_aims 2 = .ok (.invokevirtual 142, 3) := by decide +kernel
theorem dX10_aims_5 : decode cX10_aims 5 = .ok (.ifCond .eq 18, 3) := by decide +kernel
theorem dX10_aims_8 : decode cX10_aims 8 = .ok (.aload_n 0, 1) := by decide +kernel
theorem dX10_aims_9 : decode cX10_aims 9 = .ok (.getfield 19, 3) := by decide +kernel
theorem dX10_aims_12 : decode cX10_aims 12 = .ok (.getfield 166, 3) := by decide +kernel
theorem dX10_aims_15 : decode cX10_aims 15 = .ok (.iload_n 1, 1) := by decide +kernel
theorem dX10_aims_16 : decode cX10_aims 16 = .ok (.iload_n 2, 1) := by decide +kernel
theorem dX10_aims_17 : decode cX10_aims 17 = .ok (.invokevirtual 229, 3) := by decide +kernel
theorem dX10_aims_20 : decode cX10_aims 20 = .ok (.goto 4, 3) := by decide +kernel
theorem dX10_aims_23 : decode cX10_aims 23 = .ok (.iconst (-1), 1) := by decide +kernel
theorem dX10_aims_24 : decode cX10_aims 24 = .ok (.ireturn, 1) := by decide +kernel
theorem dX10_sure_0 : decode cX10_sure 0 = .ok (.aload_n 0, 1) := by decide +kernel
theorem dX10_sure_1 : decode cX10_sure 1 = .ok (.iload_n 1, 1) := by decide +kernel
theorem dX10_sure_2 : decode cX10_sure 2 = .ok (.invokevirtual 142, 3) := by decide +kernel
theorem dX10_sure_5 : decode cX10_sure 5 = .ok (.ifCond .eq 14, 3) := by decide +kernel
theorem dX10_sure_8 : decode cX10_sure 8 = .ok (.aload_n 0, 1) := by decide +kernel
theorem dX10_sure_9 : decode cX10_sure 9 = .ok (.getfield 74, 3) := by decide +kernel
theorem dX10_sure_12 : decode cX10_sure 12 = .ok (.iload_n 1, 1) := by decide +kernel
theorem dX10_sure_13 : decode cX10_sure 13 = .ok (.invokevirtual 232, 3) := by decide +kernel
theorem dX10_sure_16 : decode cX10_sure 16 = .ok (.goto 6, 3) := by decide +kernel
theorem dX10_sure_19 : decode cX10_sure 19 = .ok (.sipush (-10001), 3) := by decide +kernel
theorem dX10_sure_22 : decode cX10_sure 22 = .ok (.ireturn, 1) := by decide +kernel
theorem dX10_grid_0 : decode cX10_grid 0 = .ok (.aload_n 0, 1) := by decide +kernel
theorem dX10_grid_1 : decode cX10_grid 1 = .ok (.iload_n 1, 1) := by decide +kernel
theorem dX10_grid_2 : decode cX10_grid 2 = .ok (.invokevirtual 142, 3) := by decide +kernel
theorem dX10_grid_5 : decode cX10_grid 5 = .ok (.ifCond .eq 11, 3) := by decide +kernel
theorem dX10_grid_8 : decode cX10_grid 8 = .ok (.iload_n 2, 1) := by decide +kernel
theorem dX10_grid_9 : decode cX10_grid 9 = .ok (.iload_n 3, 1) := by decide +kernel
theorem dX10_grid_10 : decode cX10_grid 10 = .ok (.invokestatic 235, 3) := by decide +kernel
theorem dX10_grid_13 : decode cX10_grid 13 = .ok (.ifCond .ne 7, 3) := by decide +kernel
theorem dX10_grid_16 : decode cX10_grid 16 = .ok (.sipush (-10001), 3) := by decide +kernel
theorem dX10_grid_19 : decode cX10_grid 19 = .ok (.ireturn, 1) := by decide +kernel
theorem dX10_grid_20 : decode cX10_grid 20 = .ok (.aload_n 0, 1) := by decide +kernel
theorem dX10_grid_21 : decode cX10_grid 21 = .ok (.getfield 74, 3) := by decide +kernel
theorem dX10_grid_24 : decode cX10_grid 24 = .ok (.iload_n 1, 1) := by decide +kernel
theorem dX10_grid_25 : decode cX10_grid 25 = .ok (.iload_n 2, 1) := by decide +kernel
theorem dX10_grid_26 : decode cX10_grid 26 = .ok (.iload_n 3, 1) := by decide +kernel
theorem dX10_grid_27 : decode cX10_grid 27 = .ok (.invokevirtual 238, 3) := by decide +kernel
theorem dX10_grid_30 : decode cX10_grid 30 = .ok (.ireturn, 1) := by decide +kernel
theorem dX10_best_0 : decode cX10_best 0 = .ok (.aload_n 0, 1) := by decide +kernel
theorem dX10_best_1 : decode cX10_best 1 = .ok (.iload_n 1, 1) := by decide +kernel
theorem dX10_best_2 : decode cX10_best 2 = .ok (.invokevirtual 142, 3) := by decide +kernel
theorem dX10_best_5 : decode cX10_best 5 = .ok (.ifCond .eq 14, 3) := by decide +kernel
theorem dX10_best_8 : decode cX10_best 8 = .ok (.aload_n 0, 1) := by decide +kernel
theorem dX10_best_9 : decode cX10_best 9 = .ok (.getfield 74, 3) := by decide +kernel
theorem dX10_best_12 : decode cX10_best 12 = .ok (.iload_n 1, 1) := by decide +kernel
theorem dX10_best_13 : decode cX10_best 13 = .ok (.invokevirtual 242, 3) := by decide +kernel
theorem dX10_best_16 : decode cX10_best 16 = .ok (.goto 4, 3) := by decide +kernel
theorem dX10_best_19 : decode cX10_best 19 = .ok (.iconst (-1), 1) := by decide +kernel
theorem dX10_best_20 : decode cX10_best 20 = .ok (.ireturn, 1) := by decide +kernel
theorem dX10_days_0 : decode cX10_days 0 = .ok (.aload_n 0, 1) := by decide +kernel
theorem dX10_days_1 : decode cX10_days 1 = .ok (.getfield 81, 3) := by decide +kernel
theorem dX10_days_4 : decode cX10_days 4 = .ok (.aload_n 0, 1) := by decide +kernel
theorem dX10_days_5 : decode cX10_days 5 = .ok (.getfield 12, 3) := by decide +kernel
theorem dX10_days_8 : decode cX10_days 8 = .ok (.iload_n 1, 1) := by decide +kernel
theorem dX10_days_9 : decode cX10_days 9 = .ok (.invokevirtual 245, 3) := by decide +kernel
theorem dX10_days_12 : decode cX10_days 12 = .ok (.istore_n 2, 1) := by decide +kernel
theorem dX10_days_13 : decode cX10_days 13 = .ok (.aload_n 0, 1) := by decide +kernel
theorem dX10_days_14 : decode cX10_days 14 = .ok (.getfield 12, 3) := by decide +kernel
theorem dX10_days_17 : decode cX10_days 17 = .ok (.iconst 0, 1) := by decide +kernel
theorem dX10_days_18 : decode cX10_days 18 = .ok (.putfield 100, 3) := by decide +kernel
theorem dX10_days_21 : decode cX10_days 21 = .ok (.iload_n 2, 1) := by decide +kernel
theorem dX10_days_22 : decode cX10_days 22 = .ok (.ireturn, 1) := by decide +kernel
theorem dX10_rows_0 : decode cX10_rows 0 = .ok (.iload_n 1, 1) := by decide +kernel
theorem dX10_rows_1 : decode cX10_rows 1 = .ok (.ifCond .lt 8, 3) := by decide +kernel
theorem dX10_rows_4 : decode cX10_rows 4 = .ok (.iload_n 1, 1) := by decide +kernel
theorem dX10_rows_5 : decode cX10_rows 5 = .ok (.iconst 3, 1) := by decide +kernel
theorem dX10_rows_6 : decode cX10_rows 6 = .ok (.if_icmp .lt 7, 3) := by decide +kernel
theorem dX10_rows_9 : decode cX10_rows 9 = .ok (.iconst (-1), 1) := by decide +kernel
theorem dX10_rows_10 : decode cX10_rows 10 = .ok (.goto 12, 3) := by decide +kernel
theorem dX10_rows_13 : decode cX10_rows 13 = .ok (.aload_n 0, 1) := by decide +kernel
theorem dX10_rows_14 : decode cX10_rows 14 = .ok (.getfield 81, 3) := by decide +kernel
theorem dX10_rows_17 : decode cX10_rows 17 = .ok (.getfield 249, 3) := by decide +kernel
theorem dX10_rows_20 : decode cX10_rows 20 = .ok (.iload_n 1, 1) := by decide +kernel
theorem dX10_rows_21 : decode cX10_rows 21 = .ok (.iaload, 1) := by decide +kernel
theorem dX10_rows_22 : decode cX10_rows 22 = .ok (.ireturn, 1) := by decide +kernel
theorem dX10_stand_0 : decode cX10_stand 0 = .ok (.aload_n 0, 1) := by decide +kernel
theorem dX10_stand_1 : decode cX10_stand 1 = .ok (.iload_n 1, 1) := by decide +kernel
theorem dX10_stand_2 : decode cX10_stand 2 = .ok (.invokevirtual 142, 3) := by decide +kernel
theorem dX10_stand_5 : decode cX10_stand 5 = .ok (.ifCond .eq 26, 3) := by decide +kernel
theorem dX10_stand_8 : decode cX10_stand 8 = .ok (.aload_n 0, 1) := by decide +kernel
theorem dX10_stand_9 : decode cX10_stand 9 = .ok (.getfield 74, 3) := by decide +kernel
theorem dX10_stand_12 : decode cX10_stand 12 = .ok (.iload_n 2, 1) := by decide +kernel
theorem dX10_stand_13 : decode cX10_stand 13 = .ok (.invokevirtual 252, 3) := by decide +kernel
theorem dX10_stand_16 : decode cX10_stand 16 = .ok (.ifCond .eq 15, 3) := by decide +kernel
theorem dX10_stand_19 : decode cX10_stand 19 = .ok (.aload_n 0, 1) := by decide +kernel
theorem dX10_stand_20 : decode cX10_stand 20 = .ok (.getfield 74, 3) := by decide +kernel
theorem dX10_stand_23 : decode cX10_stand 23 = .ok (.iload_n 1, 1) := by decide +kernel
theorem dX10_stand_24 : decode cX10_stand 24 = .ok (.iload_n 2, 1) := by decide +kernel
theorem dX10_stand_25 : decode cX10_stand 25 = .ok (.invokevirtual 255, 3) := by decide +kernel
theorem dX10_stand_28 : decode cX10_stand 28 = .ok (.goto 6, 3) := by decide +kernel
theorem dX10_stand_31 : decode cX10_stand 31 = .ok (.sipush (-10001), 3) := by decide +kernel
theorem dX10_stand_34 : decode cX10_stand 34 = .ok (.ireturn, 1) := by decide +kernel
theorem dX10_rests_0 : decode cX10_rests 0 = .ok (.aload_n 0, 1) := by decide +kernel
theorem dX10_rests_1 : decode cX10_rests 1 = .ok (.getfield 74, 3) := by decide +kernel
theorem dX10_rests_4 : decode cX10_rests 4 = .ok (.iload_n 1, 1) := by decide +kernel
theorem dX10_rests_5 : decode cX10_rests 5 = .ok (.invokevirtual 258, 3) := by decide +kernel
theorem dX10_rests_8 : decode cX10_rests 8 = .ok (.ireturn, 1) := by decide +kernel
theorem dX10_join_0 : decode cX10_join 0 = .ok (.aload_n 0, 1) := by decide +kernel
theorem dX10_join_1 : decode cX10_join 1 = .ok (.iload_n 1, 1) := by decide +kernel
theorem dX10_join_2 : decode cX10_join 2 = .ok (.invokevirtual 142, 3) := by decide +kernel
theorem dX10_join_5 : decode cX10_join 5 = .ok (.ifCond .eq 30, 3) := by decide +kernel
theorem dX10_join_8 : decode cX10_join 8 = .ok (.aload_n 0, 1) := by decide +kernel
theorem dX10_join_9 : decode cX10_join 9 = .ok (.iload_n 2, 1) := by decide +kernel
theorem dX10_join_10 : decode cX10_join 10 = .ok (.invokevirtual 142, 3) := by decide +kernel
theorem dX10_join_13 : decode cX10_join 13 = .ok (.ifCond .eq 22, 3) := by decide +kernel
theorem dX10_join_16 : decode cX10_join 16 = .ok (.iload_n 1, 1) := by decide +kernel
theorem dX10_join_17 : decode cX10_join 17 = .ok (.iload_n 2, 1) := by decide +kernel
theorem dX10_join_18 : decode cX10_join 18 = .ok (.if_icmp .eq 17, 3) := by decide +kernel
theorem dX10_join_21 : decode cX10_join 21 = .ok (.aload_n 0, 1) := by decide +kernel
theorem dX10_join_22 : decode cX10_join 22 = .ok (.getfield 19, 3) := by decide +kernel
theorem dX10_join_25 : decode cX10_join 25 = .ok (.getfield 57, 3) := by decide +kernel
theorem dX10_join_28 : decode cX10_join 28 = .ok (.iload_n 2, 1) := by decide +kernel
theorem dX10_join_29 : decode cX10_join 29 = .ok (.invokevirtual 261, 3) := by decide +kernel
theorem dX10_join_32 : decode cX10_join 32 = .ok (.ifCond .ne 7, 3) := by decide +kernel
theorem dX10_join_35 : decode cX10_join 35 = .ok (.sipush (-10001), 3) := by decide +kernel
theorem dX10_join_38 : decode cX10_join 38 = .ok (.ireturn, 1) := by decide +kernel
theorem dX10_join_39 : decode cX10_join 39 = .ok (.aload_n 0, 1) := by decide +kernel
theorem dX10_join_40 : decode cX10_join 40 = .ok (.getfield 74, 3) := by decide +kernel
theorem dX10_join_43 : decode cX10_join 43 = .ok (.iload_n 1, 1) := by decide +kernel
theorem dX10_join_44 : decode cX10_join 44 = .ok (.iload_n 2, 1) := by decide +kernel
theorem dX10_join_45 : decode cX10_join 45 = .ok (.invokevirtual 264, 3) := by decide +kernel
theorem dX10_join_48 : decode cX10_join 48 = .ok (.ireturn, 1) := by decide +kernel
theorem dX10_look_0 : decode cX10_look 0 = .ok (.aload_n 0, 1) := by decide +kernel
theorem dX10_look_1 : decode cX10_look 1 = .ok (.getfield 81, 3) := by decide +kernel
theorem dX10_look_4 : decode cX10_look 4 = .ok (.aload_n 0, 1) := by decide +kernel
theorem dX10_look_5 : decode cX10_look 5 = .ok (.getfield 12, 3) := by decide +kernel
theorem dX10_look_8 : decode cX10_look 8 = .ok (.invokevirtual 267, 3) := by decide +kernel
theorem dX10_look_11 : decode cX10_look 11 = .ok (.istore_n 1, 1) := by decide +kernel
theorem dX10_look_12 : decode cX10_look 12 = .ok (.aload_n 0, 1) := by decide +kernel
theorem dX10_look_13 : decode cX10_look 13 = .ok (.getfield 12, 3) := by decide +kernel
theorem dX10_look_16 : decode cX10_look 16 = .ok (.iconst 0, 1) := by decide +kernel
theorem dX10_look_17 : decode cX10_look 17 = .ok (.putfield 100, 3) := by decide +kernel
theorem dX10_look_20 : decode cX10_look 20 = .ok (.iload_n 1, 1) := by decide +kernel
theorem dX10_look_21 : decode cX10_look 21 = .ok (.ireturn, 1) := by decide +kernel
theorem dX10_held_0 : decode cX10_held 0 = .ok (.aload_n 0, 1) := by decide +kernel
theorem dX10_held_1 : decode cX10_held 1 = .ok (.getfield 81, 3) := by decide +kernel
theorem dX10_held_4 : decode cX10_held 4 = .ok (.iload_n 1, 1) := by decide +kernel
theorem dX10_held_5 : decode cX10_held 5 = .ok (.invokevirtual 271, 3) := by decide +kernel
theorem dX10_held_8 : decode cX10_held 8 = .ok (.ireturn, 1) := by decide +kernel
theorem dX10_walk_0 : decode cX10_walk 0 = .ok (.aload_n 0, 1) := by decide +kernel
theorem dX10_walk_1 : decode cX10_walk 1 = .ok (.getfield 81, 3) := by decide +kernel
theorem dX10_walk_4 : decode cX10_walk 4 = .ok (.iload_n 1, 1) := by decide +kernel
theorem dX10_walk_5 : decode cX10_walk 5 = .ok (.iload_n 2, 1) := by decide +kernel
theorem dX10_walk_6 : decode cX10_walk 6 = .ok (.invokevirtual 274, 3) := by decide +kernel
theorem dX10_walk_9 : decode cX10_walk 9 = .ok (.ireturn, 1) := by decide +kernel
theorem dX10_alike_0 : decode cX10_alike 0 = .ok (.iload_n 3, 1) := by decide +kernel
theorem dX10_alike_1 : decode cX10_alike 1 = .ok (.ifCond .lt 32, 3) := by decide +kernel
theorem dX10_alike_4 : decode cX10_alike 4 = .ok (.iload_n 3, 1) := by decide +kernel
theorem dX10_alike_5 : decode cX10_alike 5 = .ok (.aload_n 0, 1) := by decide +kernel
theorem dX10_alike_6 : decode cX10_alike 6 = .ok (.getfield 81, 3) := by decide +kernel
theorem dX10_alike_9 : decode cX10_alike 9 = .ok (.iload_n 1, 1) := by decide +kernel
theorem dX10_alike_10 : decode cX10_alike 10 = .ok (.iload_n 2, 1) := by decide +kernel
theorem dX10_alike_11 : decode cX10_alike 11 = .ok (.invokevirtual 274, 3) := by decide +kernel
theorem dX10_alike_14 : decode cX10_alike 14 = .ok (.if_icmp .ge 19, 3) := by decide +kernel
theorem dX10_alike_17 : decode cX10_alike 17 = .ok (.iload 4, 2) := by decide +kernel
theorem dX10_alike_19 : decode cX10_alike 19 = .ok (.ifCond .lt 14, 3) := by decide +kernel
theorem dX10_alike_22 : decode cX10_alike 22 = .ok (.iload 4, 2) := by decide +kernel
theorem dX10_alike_24 : decode cX10_alike 24 = .ok (.iload_n 1, 1) := by decide +kernel
theorem dX10_alike_25 : decode cX10_alike 25 = .ok (.if_icmp .ge 8, 3) := by decide +kernel
theorem dX10_alike_28 : decode cX10_alike 28 = .ok (.iload_n 2, 1) := by decide +kernel
theorem dX10_alike_29 : decode cX10_alike 29 = .ok (.iconst 1, 1) := by decide +kernel
theorem dX10_alike_30 : decode cX10_alike 30 = .ok (.if_icmp .ge 5, 3) := by decide +kernel
theorem dX10_alike_33 : decode cX10_alike 33 = .ok (.iconst (-1), 1) := by decide +kernel
theorem dX10_alike_34 : decode cX10_alike 34 = .ok (.ireturn, 1) := by decide +kernel
theorem dX10_alike_35 : decode cX10_alike 35 = .ok (.iload_n 3, 1) := by decide +kernel
theorem dX10_alike_36 : decode cX10_alike 36 = .ok (.iload_n 1, 1) := by decide +kernel
theorem dX10_alike_37 : decode cX10_alike 37 = .ok (.imul, 1) := by decide +kernel
theorem dX10_alike_38 : decode cX10_alike 38 = .ok (.iload 4, 2) := by decide +kernel
theorem dX10_alike_40 : decode cX10_alike 40 = .ok (.iadd, 1) := by decide +kernel
theorem dX10_alike_41 : decode cX10_alike 41 = .ok (.iload_n 2, 1) := by decide +kernel
theorem dX10_alike_42 : decode cX10_alike 42 = .ok (.irem, 1) := by decide +kernel
theorem dX10_alike_43 : decode cX10_alike 43 = .ok (.ireturn, 1) := by decide +kernel
theorem dX10_comes_0 : decode cX10_comes 0 = .ok (.iload_n 1, 1) := by decide +kernel
theorem dX10_comes_1 : decode cX10_comes 1 = .ok (.ifCond .lt 14, 3) := by decide +kernel
theorem dX10_comes_4 : decode cX10_comes 4 = .ok (.iload_n 1, 1) := by decide +kernel
theorem dX10_comes_5 : decode cX10_comes 5 = .ok (.aload_n 0, 1) := by decide +kernel
theorem dX10_comes_6 : decode cX10_comes 6 = .ok (.getfield 88, 3) := by decide +kernel
theorem dX10_comes_9 : decode cX10_comes 9 = .ok (.getfield 281, 3) := by decide +kernel
theorem dX10_comes_12 : decode cX10_comes 12 = .ok (.if_icmp .lt 7, 3) := by decide +kernel
theorem dX10_comes_15 : decode cX10_comes 15 = .ok (.iconst (-1), 1) := by decide +kernel
theorem dX10_comes_16 : decode cX10_comes 16 = .ok (.goto 12, 3) := by decide +kernel
theorem dX10_comes_19 : decode cX10_comes 19 = .ok (.aload_n 0, 1) := by decide +kernel
theorem dX10_comes_20 : decode cX10_comes 20 = .ok (.getfield 88, 3) := by decide +kernel
theorem dX10_comes_23 : decode cX10_comes 23 = .ok (.getfield 284, 3) := by decide +kernel
theorem dX10_comes_26 : decode cX10_comes 26 = .ok (.iload_n 1, 1) := by decide +kernel
theorem dX10_comes_27 : decode cX10_comes 27 = .ok (.iaload, 1) := by decide +kernel
theorem dX10_comes_28 : decode cX10_comes 28 = .ok (.ireturn, 1) := by decide +kernel
theorem dX10_slippery_0 : decode cX10_slippery 0 = .ok (.aload_n 0, 1) := by decide +kernel
theorem dX10_slippery_1 : decode cX10_slippery 1 = .ok (.getfield 88, 3) := by decide +kernel
theorem dX10_slippery_4 : decode cX10_slippery 4 = .ok (.aload_n 0, 1) := by decide +kernel
theorem dX10_slippery_5 : decode cX10_slippery 5 = .ok (.getfield 19, 3) := by decide +kernel
theorem dX10_slippery_8 : decode cX10_slippery 8 = .ok (.getfield 54, 3) := by decide +kernel
theorem dX10_slippery_11 : decode cX10_slippery 11 = .ok (.aload_n 0, 1) := by decide +kernel
theorem dX10_slippery_12 : decode cX10_slippery 12 = .ok (.getfield 19, 3) := by decide +kernel
theorem dX10_slippery_15 : decode cX10_slippery 15 = .ok (.getfield 166, 3) := by decide +kernel
theorem dX10_slippery_18 : decode cX10_slippery 18 = .ok (.invokevirtual 287, 3) := by decide +kernel
theorem dX10_slippery_21 : decode cX10_slippery 21 = .ok (.ireturn, 1) := by decide +kernel
theorem dX10_dry_0 : decode cX10_dry 0 = .ok (.aload_n 0, 1) := by decide +kernel
theorem dX10_dry_1 : decode cX10_dry 1 = .ok (.getfield 88, 3) := by decide +kernel
theorem dX10_dry_4 : decode cX10_dry 4 = .ok (.iload_n 1, 1) := by decide +kernel
theorem dX10_dry_5 : decode cX10_dry 5 = .ok (.invokevirtual 291, 3) := by decide +kernel
theorem dX10_dry_8 : decode cX10_dry 8 = .ok (.ireturn, 1) := by decide +kernel
theorem dX10_table_0 : decode cX10_table 0 = .ok (.aload_n 0, 1) := by decide +kernel
theorem dX10_table_1 : decode cX10_table 1 = .ok (.getfield 74, 3) := by decide +kernel
theorem dX10_table_4 : decode cX10_table 4 = .ok (.aload_n 0, 1) := by decide +kernel
theorem dX10_table_5 : decode cX10_table 5 = .ok (.getfield 12, 3) := by decide +kernel
theorem dX10_table_8 : decode cX10_table 8 = .ok (.invokevirtual 294, 3) := by decide +kernel
theorem dX10_table_11 : decode cX10_table 11 = .ok (.istore_n 1, 1) := by decide +kernel
theorem dX10_table_12 : decode cX10_table 12 = .ok (.aload_n 0, 1) := by decide +kernel
theorem dX10_table_13 : decode cX10_table 13 = .ok (.getfield 12, 3) := by decide +kernel
theorem dX10_table_16 : decode cX10_table 16 = .ok (.iconst 0, 1) := by decide +kernel
theorem dX10_table_17 : decode cX10_table 17 = .ok (.putfield 100, 3) := by decide +kernel
theorem dX10_table_20 : decode cX10_table 20 = .ok (.iload_n 1, 1) := by decide +kernel
theorem dX10_table_21 : decode cX10_table 21 = .ok (.ireturn, 1) := by decide +kernel
theorem dX10_against_0 : decode cX10_against 0 = .ok (.iload_n 3, 1) := by decide +kernel
theorem dX10_against_1 : decode cX10_against 1 = .ok (.ifCond .eq 8, 3) := by decide +kernel
theorem dX10_against_4 : decode cX10_against 4 = .ok (.iload_n 3, 1) := by decide +kernel
theorem dX10_against_5 : decode cX10_against 5 = .ok (.iconst 1, 1) := by decide +kernel
theorem dX10_against_6 : decode cX10_against 6 = .ok (.if_icmp .ne 16, 3) := by decide +kernel
theorem dX10_against_9 : decode cX10_against 9 = .ok (.aload_n 0, 1) := by decide +kernel
theorem dX10_against_10 : decode cX10_against 10 = .ok (.getfield 74, 3) := by decide +kernel
theorem dX10_against_13 : decode cX10_against 13 = .ok (.iload_n 1, 1) := by decide +kernel
theorem dX10_against_14 : decode cX10_against 14 = .ok (.iload_n 2, 1) := by decide +kernel
theorem dX10_against_15 : decode cX10_against 15 = .ok (.iload_n 3, 1) := by decide +kernel
theorem dX10_against_16 : decode cX10_against 16 = .ok (.invokevirtual 297, 3) := by decide +kernel
theorem dX10_against_19 : decode cX10_against 19 = .ok (.goto 6, 3) := by decide +kernel
theorem dX10_against_22 : decode cX10_against 22 = .ok (.sipush (-10001), 3) := by decide +kernel
theorem dX10_against_25 : decode cX10_against 25 = .ok (.ireturn, 1) := by decide +kernel
theorem dX10_reply_0 : decode cX10_reply 0 = .ok (.aload_n 0, 1) := by decide +kernel
theorem dX10_reply_1 : decode cX10_reply 1 = .ok (.getfield 74, 3) := by decide +kernel
theorem dX10_reply_4 : decode cX10_reply 4 = .ok (.iload_n 1, 1) := by decide +kernel
theorem dX10_reply_5 : decode cX10_reply 5 = .ok (.invokevirtual 300, 3) := by decide +kernel
theorem dX10_reply_8 : decode cX10_reply 8 = .ok (.ireturn, 1) := by decide +kernel
theorem dX10_who_0 : decode cX10_who 0 = .ok (.aload_n 0, 1) := by decide +kernel
theorem dX10_who_1 : decode cX10_who 1 = .ok (.iload_n 1, 1) := by decide +kernel
theorem dX10_who_2 : decode cX10_who 2 = .ok (.invokevirtual 156, 3) := by decide +kernel
theorem dX10_who_5 : decode cX10_who 5 = .ok (.ifCond .eq 18, 3) := by decide +kernel
theorem dX10_who_8 : decode cX10_who 8 = .ok (.aload_n 0, 1) := by decide +kernel
theorem dX10_who_9 : decode cX10_who 9 = .ok (.getfield 19, 3) := by decide +kernel
theorem dX10_who_12 : decode cX10_who 12 = .ok (.getfield 166, 3) := by decide +kernel
theorem dX10_who_15 : decode cX10_who 15 = .ok (.iload_n 1, 1) := by decide +kernel
theorem dX10_who_16 : decode cX10_who 16 = .ok (.iload_n 2, 1) := by decide +kernel
theorem dX10_who_17 : decode cX10_who 17 = .ok (.invokevirtual 303, 3) := by decide +kernel
theorem dX10_who_20 : decode cX10_who 20 = .ok (.goto 4, 3) := by decide +kernel
theorem dX10_who_23 : decode cX10_who 23 = .ok (.iconst (-1), 1) := by decide +kernel
theorem dX10_who_24 : decode cX10_who 24 = .ok (.ireturn, 1) := by decide +kernel
theorem dX10_odds_0 : decode cX10_odds 0 = .ok (.aload_n 0, 1) := by decide +kernel
theorem dX10_odds_1 : decode cX10_odds 1 = .ok (.iload_n 1, 1) := by decide +kernel
theorem dX10_odds_2 : decode cX10_odds 2 = .ok (.invokevirtual 142, 3) := by decide +kernel
theorem dX10_odds_5 : decode cX10_odds 5 = .ok (.ifCond .eq 14, 3) := by decide +kernel
theorem dX10_odds_8 : decode cX10_odds 8 = .ok (.iload_n 2, 1) := by decide +kernel
theorem dX10_odds_9 : decode cX10_odds 9 = .ok (.iconst 1, 1) := by decide +kernel
theorem dX10_odds_10 : decode cX10_odds 10 = .ok (.if_icmp .lt 9, 3) := by decide +kernel
theorem dX10_odds_13 : decode cX10_odds 13 = .ok (.iload_n 2, 1) := by decide +kernel
theorem dX10_odds_14 : decode cX10_odds 14 = .ok (.bipush 60, 2) := by decide +kernel
theorem dX10_odds_16 : decode cX10_odds 16 = .ok (.if_icmp .le 5, 3) := by decide +kernel
theorem dX10_odds_19 : decode cX10_odds 19 = .ok (.iconst (-1), 1) := by decide +kernel
theorem dX10_odds_20 : decode cX10_odds 20 = .ok (.ireturn, 1) := by decide +kernel
theorem dX10_odds_21 : decode cX10_odds 21 = .ok (.aload_n 0, 1) := by decide +kernel
theorem dX10_odds_22 : decode cX10_odds 22 = .ok (.getfield 74, 3) := by decide +kernel
theorem dX10_odds_25 : decode cX10_odds 25 = .ok (.iload_n 1, 1) := by decide +kernel
theorem dX10_odds_26 : decode cX10_odds 26 = .ok (.invokevirtual 232, 3) := by decide +kernel
theorem dX10_odds_29 : decode cX10_odds 29 = .ok (.istore 4, 2) := by decide +kernel
theorem dX10_odds_31 : decode cX10_odds 31 = .ok (.iconst 0, 1) := by decide +kernel
theorem dX10_odds_32 : decode cX10_odds 32 = .ok (.istore 5, 2) := by decide +kernel
theorem dX10_odds_34 : decode cX10_odds 34 = .ok (.aload_n 0, 1) := by decide +kernel
theorem dX10_odds_35 : decode cX10_odds 35 = .ok (.getfield 67, 3) := by decide +kernel
theorem dX10_odds_38 : decode cX10_odds 38 = .ok (.aload_n 0, 1) := by decide +kernel
theorem dX10_odds_39 : decode cX10_odds 39 = .ok (.getfield 19, 3) := by decide +kernel
theorem dX10_odds_42 : decode cX10_odds 42 = .ok (.getfield 166, 3) := by decide +kernel
theorem dX10_odds_45 : decode cX10_odds 45 = .ok (.invokevirtual 306, 3) := by decide +kernel
theorem dX10_odds_48 : decode cX10_odds 48 = .ok (.iconst 0, 1) := by decide +kernel
theorem dX10_odds_49 : decode cX10_odds 49 = .ok (.istore 6, 2) := by decide +kernel
theorem dX10_odds_51 : decode cX10_odds 51 = .ok (.iload 6, 2) := by decide +kernel
theorem dX10_odds_53 : decode cX10_odds 53 = .ok (.iload_n 2, 1) := by decide +kernel
theorem dX10_odds_54 : decode cX10_odds 54 = .ok (.if_icmp .ge 48, 3) := by decide +kernel
theorem dX10_odds_57 : decode cX10_odds 57 = .ok (.aload_n 0, 1) := by decide +kernel
theorem dX10_odds_58 : decode cX10_odds 58 = .ok (.getfield 67, 3) := by decide +kernel
theorem dX10_odds_61 : decode cX10_odds 61 = .ok (.iload_n 3, 1) := by decide +kernel
theorem dX10_odds_62 : decode cX10_odds 62 = .ok (.iload 6, 2) := by decide +kernel
theorem dX10_odds_64 : decode cX10_odds 64 = .ok (.iadd, 1) := by decide +kernel
theorem dX10_odds_65 : decode cX10_odds 65 = .ok (.invokevirtual 201, 3) := by decide +kernel
theorem dX10_odds_68 : decode cX10_odds 68 = .ok (.aload_n 0, 1) := by decide +kernel
theorem dX10_odds_69 : decode cX10_odds 69 = .ok (.getfield 67, 3) := by decide +kernel
theorem dX10_odds_72 : decode cX10_odds 72 = .ok (.sipush 240, 3) := by decide +kernel
theorem dX10_odds_75 : decode cX10_odds 75 = .ok (.invokevirtual 204, 3) := by decide +kernel
theorem dX10_odds_78 : decode cX10_odds 78 = .ok (.pop, 1) := by decide +kernel
theorem dX10_odds_79 : decode cX10_odds 79 = .ok (.aload_n 0, 1) := by decide +kernel
theorem dX10_odds_80 : decode cX10_odds 80 = .ok (.getfield 67, 3) := by decide +kernel
theorem dX10_odds_83 : decode cX10_odds 83 = .ok (.getfield 310, 3) := by decide +kernel
theorem dX10_odds_86 : decode cX10_odds 86 = .ok (.iload_n 1, 1) := by decide +kernel
theorem dX10_odds_87 : decode cX10_odds 87 = .ok (.iaload, 1) := by decide +kernel
theorem dX10_odds_88 : decode cX10_odds 88 = .ok (.iload 4, 2) := by decide +kernel
theorem dX10_odds_90 : decode cX10_odds 90 = .ok (.if_icmp .le 6, 3) := by decide +kernel
theorem dX10_odds_93 : decode cX10_odds 93 = .ok (.iinc 5 1, 3) := by decide +kernel
theorem dX10_odds_96 : decode cX10_odds 96 = .ok (.iinc 6 1, 3) := by decide +kernel
theorem dX10_odds_99 : decode cX10_odds 99 = .ok (.goto (-48), 3) := by decide +kernel
theorem dX10_odds_102 : decode cX10_odds 102 = .ok (.iload 5, 2) := by decide +kernel
theorem dX10_odds_104 : decode cX10_odds 104 = .ok (.ireturn, 1) := by decide +kernel
theorem dX10_said_0 : decode cX10_said 0 = .ok (.iload_n 1, 1) := by decide +kernel
theorem dX10_said_1 : decode cX10_said 1 = .ok (.iconst (-1), 1) := by decide +kernel
theorem dX10_said_2 : decode cX10_said 2 = .ok (.if_icmp .lt 16, 3) := by decide +kernel
theorem dX10_said_5 : decode cX10_said 5 = .ok (.aload_n 0, 1) := by decide +kernel
theorem dX10_said_6 : decode cX10_said 6 = .ok (.getfield 19, 3) := by decide +kernel
theorem dX10_said_9 : decode cX10_said 9 = .ok (.getfield 130, 3) := by decide +kernel
theorem dX10_said_12 : decode cX10_said 12 = .ok (.invokevirtual 313, 3) := by decide +kernel
theorem dX10_said_15 : decode cX10_said 15 = .ok (.ifCond .ne 5, 3) := by decide +kernel
theorem dX10_said_18 : decode cX10_said 18 = .ok (.iconst (-1), 1) := by decide +kernel
theorem dX10_said_19 : decode cX10_said 19 = .ok (.ireturn, 1) := by decide +kernel
theorem dX10_said_20 : decode cX10_said 20 = .ok (.iconst 0, 1) := by decide +kernel
theorem dX10_said_21 : decode cX10_said 21 = .ok (.istore_n 2, 1) := by decide +kernel
theorem dX10_said_22 : decode cX10_said 22 = .ok (.iconst 0, 1) := by decide +kernel
theorem dX10_said_23 : decode cX10_said 23 = .ok (.istore_n 3, 1) := by decide +kernel
theorem dX10_said_24 : decode cX10_said 24 = .ok (.iload_n 3, 1) := by decide +kernel
theorem dX10_said_25 : decode cX10_said 25 = .ok (.aload_n 0, 1) := by decide +kernel
theorem dX10_said_26 : decode cX10_said 26 = .ok (.getfield 19, 3) := by decide +kernel
theorem dX10_said_29 : decode cX10_said 29 = .ok (.getfield 54, 3) := by decide +kernel
theorem dX10_said_32 : decode cX10_said 32 = .ok (.getfield 316, 3) := by decide +kernel
theorem dX10_said_35 : decode cX10_said 35 = .ok (.if_icmp .ge 40, 3) := by decide +kernel
theorem dX10_said_38 : decode cX10_said 38 = .ok (.aload_n 0, 1) := by decide +kernel
theorem dX10_said_39 : decode cX10_said 39 = .ok (.getfield 19, 3) := by decide +kernel
theorem dX10_said_42 : decode cX10_said 42 = .ok (.getfield 130, 3) := by decide +kernel
theorem dX10_said_45 : decode cX10_said 45 = .ok (.iload_n 3, 1) := by decide +kernel
theorem dX10_said_46 : decode cX10_said 46 = .ok (.aload_n 0, 1) := by decide +kernel
theorem dX10_said_47 : decode cX10_said 47 = .ok (.getfield 19, 3) := by decide +kernel
theorem dX10_said_50 : decode cX10_said 50 = .ok (.getfield 166, 3) := by decide +kernel
theorem dX10_said_53 : decode cX10_said 53 = .ok (.invokevirtual 319, 3) := by decide +kernel
theorem dX10_said_56 : decode cX10_said 56 = .ok (.ifCond .eq 13, 3) := by decide +kernel
theorem dX10_said_59 : decode cX10_said 59 = .ok (.iload_n 2, 1) := by decide +kernel
theorem dX10_said_60 : decode cX10_said 60 = .ok (.iload_n 1, 1) := by decide +kernel
theorem dX10_said_61 : decode cX10_said 61 = .ok (.if_icmp .ne 5, 3) := by decide +kernel
theorem dX10_said_64 : decode cX10_said 64 = .ok (.iload_n 3, 1) := by decide +kernel
theorem dX10_said_65 : decode cX10_said 65 = .ok (.ireturn, 1) := by decide +kernel
theorem dX10_said_66 : decode cX10_said 66 = .ok (.iinc 2 1, 3) := by decide +kernel
theorem dX10_said_69 : decode cX10_said 69 = .ok (.iinc 3 1, 3) := by decide +kernel
theorem dX10_said_72 : decode cX10_said 72 = .ok (.goto (-48), 3) := by decide +kernel
theorem dX10_said_75 : decode cX10_said 75 = .ok (.iload_n 1, 1) := by decide +kernel
theorem dX10_said_76 : decode cX10_said 76 = .ok (.iconst (-1), 1) := by decide +kernel
theorem dX10_said_77 : decode cX10_said 77 = .ok (.if_icmp .ne 7, 3) := by decide +kernel
theorem dX10_said_80 : decode cX10_said 80 = .ok (.iload_n 2, 1) := by decide +kernel
theorem dX10_said_81 : decode cX10_said 81 = .ok (.goto 4, 3) := by decide +kernel
theorem dX10_said_84 : decode cX10_said 84 = .ok (.iconst (-1), 1) := by decide +kernel
theorem dX10_said_85 : decode cX10_said 85 = .ok (.ireturn, 1) := by decide +kernel
theorem dX10_count_0 : decode cX10_count 0 = .ok (.aload_n 0, 1) := by decide +kernel
theorem dX10_count_1 : decode cX10_count 1 = .ok (.getfield 19, 3) := by decide +kernel
theorem dX10_count_4 : decode cX10_count 4 = .ok (.getfield 54, 3) := by decide +kernel
theorem dX10_count_7 : decode cX10_count 7 = .ok (.astore_n 2, 1) := by decide +kernel
theorem dX10_count_8 : decode cX10_count 8 = .ok (.iload_n 1, 1) := by decide +kernel
theorem dX10_count_9 : decode cX10_count 9 = .ok (.tableswitch 111 0 8 #[51, 56, 61, 66, 71, 78, 85, 92, 103], 51) := by decide +kernel
theorem dX10_count_60 : decode cX10_count 60 = .ok (.aload_n 2, 1) := by decide +kernel
theorem dX10_count_61 : decode cX10_count 61 = .ok (.getfield 326, 3) := by decide +kernel
theorem dX10_count_64 : decode cX10_count 64 = .ok (.ireturn, 1) := by decide +kernel
theorem dX10_count_65 : decode cX10_count 65 = .ok (.aload_n 2, 1) := by decide +kernel
theorem dX10_count_66 : decode cX10_count 66 = .ok (.getfield 329, 3) := by decide +kernel
theorem dX10_count_69 : decode cX10_count 69 = .ok (.ireturn, 1) := by decide +kernel
theorem dX10_count_70 : decode cX10_count 70 = .ok (.aload_n 2, 1) := by decide +kernel
theorem dX10_count_71 : decode cX10_count 71 = .ok (.getfield 316, 3) := by decide +kernel
theorem dX10_count_74 : decode cX10_count 74 = .ok (.ireturn, 1) := by decide +kernel
theorem dX10_count_75 : decode cX10_count 75 = .ok (.aload_n 2, 1) := by decide +kernel
theorem dX10_count_76 : decode cX10_count 76 = .ok (.getfield 332, 3) := by decide +kernel
theorem dX10_count_79 : decode cX10_count 79 = .ok (.ireturn, 1) := by decide +kernel
theorem dX10_count_80 : decode cX10_count 80 = .ok (.aload_n 2, 1) := by decide +kernel
theorem dX10_count_81 : decode cX10_count 81 = .ok (.getfield 335, 3) := by decide +kernel
theorem dX10_count_84 : decode cX10_count 84 = .ok (.iconst 0, 1) := by decide +kernel
theorem dX10_count_85 : decode cX10_count 85 = .ok (.iaload, 1) := by decide +kernel
theorem dX10_count_86 : decode cX10_count 86 = .ok (.ireturn, 1) := by decide +kernel
theorem dX10_count_87 : decode cX10_count 87 = .ok (.aload_n 2, 1) := by decide +kernel
theorem dX10_count_88 : decode cX10_count 88 = .ok (.getfield 335, 3) := by decide +kernel
theorem dX10_count_91 : decode cX10_count 91 = .ok (.iconst 1, 1) := by decide +kernel
theorem dX10_count_92 : decode cX10_count 92 = .ok (.iaload, 1) := by decide +kernel
theorem dX10_count_93 : decode cX10_count 93 = .ok (.ireturn, 1) := by decide +kernel
theorem dX10_count_94 : decode cX10_count 94 = .ok (.aload_n 2, 1) := by decide +kernel
theorem dX10_count_95 : decode cX10_count 95 = .ok (.getfield 335, 3) := by decide +kernel
theorem dX10_count_98 : decode cX10_count 98 = .ok (.iconst 2, 1) := by decide +kernel
theorem dX10_count_99 : decode cX10_count 99 = .ok (.iaload, 1) := by decide +kernel
theorem dX10_count_100 : decode cX10_count 100 = .ok (.ireturn, 1) := by decide +kernel
theorem dX10_count_101 : decode cX10_count 101 = .ok (.aload_n 0, 1) := by decide +kernel
theorem dX10_count_102 : decode cX10_count 102 = .ok (.getfield 19, 3) := by decide +kernel
theorem dX10_count_105 : decode cX10_count 105 = .ok (.getfield 57, 3) := by decide +kernel
theorem dX10_count_108 : decode cX10_count 108 = .ok (.getfield 126, 3) := by decide +kernel
theorem dX10_count_111 : decode cX10_count 111 = .ok (.ireturn, 1) := by decide +kernel
theorem dX10_count_112 : decode cX10_count 112 = .ok (.aload_n 0, 1) := by decide +kernel
theorem dX10_count_113 : decode cX10_count 113 = .ok (.getfield 12, 3) := by decide +kernel
theorem dX10_count_116 : decode cX10_count 116 = .ok (.getfield 100, 3) := by decide +kernel
theorem dX10_count_119 : decode cX10_count 119 = .ok (.ireturn, 1) := by decide +kernel
theorem dX10_count_120 : decode cX10_count 120 = .ok (.iconst (-1), 1) := by decide +kernel
theorem dX10_count_121 : decode cX10_count 121 = .ok (.ireturn, 1) := by decide +kernel
