theorem dX5_liveThrough_6 : decode cX5_liveThrough 6 = .ok (.getfield 25, 3) := by decide +kernel
theorem dX5_liveThrough_9 : decode cX5_liveThrough 9 = .ok (.getfield 89, 3) := by decide +kernel
theorem dX5_liveThrough_12 : decode cX5_liveThrough 12 = .ok (.goto 4, 3) := by decide +kernel
theorem dX5_liveThrough_15 : decode cX5_liveThrough 15 = .ok (.iload_n 1, 1) := by decide +kernel
theorem dX5_liveThrough_16 : decode cX5_liveThrough 16 = .ok (.istore_n 2, 1) := by decide +kernel
theorem dX5_liveThrough_17 : decode cX5_liveThrough 17 = .ok (.aload_n 0, 1) := by decide +kernel
theorem dX5_liveThrough_18 : decode cX5_liveThrough 18 = .ok (.getfield 25, 3) := by decide +kernel
theorem dX5_liveThrough_21 : decode cX5_liveThrough 21 = .ok (.invokevirtual 92, 3) := by decide +kernel
theorem dX5_liveThrough_24 : decode cX5_liveThrough 24 = .ok (.bipush (-6), 2) := by decide +kernel
theorem dX5_liveThrough_26 : decode cX5_liveThrough 26 = .ok (.if_icmp .eq 6, 3) := by decide +kernel
theorem dX5_liveThrough_29 : decode cX5_liveThrough 29 = .ok (.bipush (-5), 2) := by decide +kernel
theorem dX5_liveThrough_31 : decode cX5_liveThrough 31 = .ok (.ireturn, 1) := by decide +kernel
theorem dX5_liveThrough_32 : decode cX5_liveThrough 32 = .ok (.aload_n 0, 1) := by decide +kernel
theorem dX5_liveThrough_33 : decode cX5_liveThrough 33 = .ok (.getfield 25, 3) := by decide +kernel
theorem dX5_liveThrough_36 : decode cX5_liveThrough 36 = .ok (.iload_n 2, 1) := by decide +kernel
theorem dX5_liveThrough_37 : decode cX5_liveThrough 37 = .ok (.invokevirtual 99, 3) := by decide +kernel
theorem dX5_liveThrough_40 : decode cX5_liveThrough 40 = .ok (.ifCond .eq 6, 3) := by decide +kernel
theorem dX5_liveThrough_43 : decode cX5_liveThrough 43 = .ok (.bipush (-3), 2) := by decide +kernel
theorem dX5_liveThrough_45 : decode cX5_liveThrough 45 = .ok (.ireturn, 1) := by decide +kernel
theorem dX5_liveThrough_46 : decode cX5_liveThrough 46 = .ok (.aload_n 0, 1) := by decide +kernel
theorem dX5_liveThrough_47 : decode cX5_liveThrough 47 = .ok (.getfield 52, 3) := by decide +kernel
theorem dX5_liveThrough_50 : decode cX5_liveThrough 50 = .ok (.aload_n 0, 1) := by decide +kernel
theorem dX5_liveThrough_51 : decode cX5_liveThrough 51 = .ok (.getfield 12, 3) := by decide +kernel
theorem dX5_liveThrough_54 : decode cX5_liveThrough 54 = .ok (.getfield 79, 3) := by decide +kernel
theorem dX5_liveThrough_57 : decode cX5_liveThrough 57 = .ok (.invokevirtual 102, 3) := by decide +kernel
theorem dX5_liveThrough_60 : decode cX5_liveThrough 60 = .ok (.aload_n 0, 1) := by decide +kernel
theorem dX5_liveThrough_61 : decode cX5_liveThrough 61 = .ok (.getfield 52, 3) := by decide +kernel
theorem dX5_liveThrough_64 : decode cX5_liveThrough 64 = .ok (.aload_n 0, 1) := by decide +kernel
theorem dX5_liveThrough_65 : decode cX5_liveThrough 65 = .ok (.getfield 25, 3) := by decide +kernel
theorem dX5_liveThrough_68 : decode cX5_liveThrough 68 = .ok (.iconst 0, 1) := by decide +kernel
theorem dX5_liveThrough_69 : decode cX5_liveThrough 69 = .ok (.iload_n 2, 1) := by decide +kernel
theorem dX5_liveThrough_70 : decode cX5_liveThrough 70 = .ok (.invokevirtual 105, 3) := by decide +kernel
theorem dX5_liveThrough_73 : decode cX5_liveThrough 73 = .ok (.bipush (-6), 2) := by decide +kernel
theorem dX5_liveThrough_75 : decode cX5_liveThrough 75 = .ok (.if_icmp .ne 7, 3) := by decide +kernel
theorem dX5_liveThrough_78 : decode cX5_liveThrough 78 = .ok (.iconst 0, 1) := by decide +kernel
theorem dX5_liveThrough_79 : decode cX5_liveThrough 79 = .ok (.goto 5, 3) := by decide +kernel
theorem dX5_liveThrough_82 : decode cX5_liveThrough 82 = .ok (.bipush (-5), 2) := by decide +kernel
theorem dX5_liveThrough_84 : decode cX5_liveThrough 84 = .ok (.ireturn, 1) := by decide +kernel
theorem dX5_sheetsBy_0 : decode cX5_sheetsBy 0 = .ok (.aload_n 0, 1) := by decide +kernel
theorem dX5_sheetsBy_1 : decode cX5_sheetsBy 1 = .ok (.getfield 52, 3) := by decide +kernel
theorem dX5_sheetsBy_4 : decode cX5_sheetsBy 4 = .ok (.iload_n 1, 1) := by decide +kernel
theorem dX5_sheetsBy_5 : decode cX5_sheetsBy 5 = .ok (.invokevirtual 102, 3) := by decide +kernel
theorem dX5_sheetsBy_8 : decode cX5_sheetsBy 8 = .ok (.aload_n 0, 1) := by decide +kernel
theorem dX5_sheetsBy_9 : decode cX5_sheetsBy 9 = .ok (.getfield 52, 3) := by decide +kernel
theorem dX5_sheetsBy_12 : decode cX5_sheetsBy 12 = .ok (.aload_n 0, 1) := by decide +kernel
theorem dX5_sheetsBy_13 : decode cX5_sheetsBy 13 = .ok (.getfield 25, 3) := by decide +kernel
theorem dX5_sheetsBy_16 : decode cX5_sheetsBy 16 = .ok (.iconst 0, 1) := by decide +kernel
theorem dX5_sheetsBy_17 : decode cX5_sheetsBy 17 = .ok (.aload_n 0, 1) := by decide +kernel
theorem dX5_sheetsBy_18 : decode cX5_sheetsBy 18 = .ok (.getfield 25, 3) := by decide +kernel
theorem dX5_sheetsBy_21 : decode cX5_sheetsBy 21 = .ok (.getfield 89, 3) := by decide +kernel
theorem dX5_sheetsBy_24 : decode cX5_sheetsBy 24 = .ok (.invokevirtual 105, 3) := by decide +kernel
theorem dX5_sheetsBy_27 : decode cX5_sheetsBy 27 = .ok (.pop, 1) := by decide +kernel
theorem dX5_sheetsBy_28 : decode cX5_sheetsBy 28 = .ok (.aload_n 0, 1) := by decide +kernel
theorem dX5_sheetsBy_29 : decode cX5_sheetsBy 29 = .ok (.getfield 52, 3) := by decide +kernel
theorem dX5_sheetsBy_32 : decode cX5_sheetsBy 32 = .ok (.invokevirtual 240, 3) := by decide +kernel
theorem dX5_sheetsBy_35 : decode cX5_sheetsBy 35 = .ok (.ireturn, 1) := by decide +kernel
theorem dX5_refusalOfComing_0 : decode cX5_refusalOfComing 0 = .ok (.iload_n 1, 1) := by decide +kernel
theorem dX5_refusalOfComing_1 : decode cX5_refusalOfComing 1 = .ok (.invokestatic 96, 3) := by decide +kernel
theorem dX5_refusalOfComing_4 : decode cX5_refusalOfComing 4 = .ok (.ifCond .ne 6, 3) := by decide +kernel
theorem dX5_refusalOfComing_7 : decode cX5_refusalOfComing 7 = .ok (.bipush (-2), 2) := by decide +kernel
theorem dX5_refusalOfComing_9 : decode cX5_refusalOfComing 9 = .ok (.ireturn, 1) := by decide +kernel
theorem dX5_refusalOfComing_10 : decode cX5_refusalOfComing 10 = .ok (.aload_n 0, 1) := by decide +kernel
theorem dX5_refusalOfComing_11 : decode cX5_refusalOfComing 11 = .ok (.iconst (-1), 1) := by decide +kernel
theorem dX5_refusalOfComing_12 : decode cX5_refusalOfComing 12 = .ok (.invokevirtual 119, 3) := by decide +kernel
theorem dX5_refusalOfComing_15 : decode cX5_refusalOfComing 15 = .ok (.istore_n 2, 1) := by decide +kernel
theorem dX5_refusalOfComing_16 : decode cX5_refusalOfComing 16 = .ok (.iload_n 2, 1) := by decide +kernel
theorem dX5_refusalOfComing_17 : decode cX5_refusalOfComing 17 = .ok (.ifCond .eq 5, 3) := by decide +kernel
theorem dX5_refusalOfComing_20 : decode cX5_refusalOfComing 20 = .ok (.iload_n 2, 1) := by decide +kernel
theorem dX5_refusalOfComing_21 : decode cX5_refusalOfComing 21 = .ok (.ireturn, 1) := by decide +kernel
theorem dX5_refusalOfComing_22 : decode cX5_refusalOfComing 22 = .ok (.aload_n 0, 1) := by decide +kernel
theorem dX5_refusalOfComing_23 : decode cX5_refusalOfComing 23 = .ok (.getfield 25, 3) := by decide +kernel
theorem dX5_refusalOfComing_26 : decode cX5_refusalOfComing 26 = .ok (.invokevirtual 82, 3) := by decide +kernel
theorem dX5_refusalOfComing_29 : decode cX5_refusalOfComing 29 = .ok (.ifCond .eq 8, 3) := by decide +kernel
theorem dX5_refusalOfComing_32 : decode cX5_refusalOfComing 32 = .ok (.bipush (-4), 2) := by decide +kernel
theorem dX5_refusalOfComing_34 : decode cX5_refusalOfComing 34 = .ok (.goto 4, 3) := by decide +kernel
theorem dX5_refusalOfComing_37 : decode cX5_refusalOfComing 37 = .ok (.iconst 0, 1) := by decide +kernel
theorem dX5_refusalOfComing_38 : decode cX5_refusalOfComing 38 = .ok (.ireturn, 1) := by decide +kernel
theorem dX5_tryAllPlaces_0 : decode cX5_tryAllPlaces 0 = .ok (.aload_n 0, 1) := by decide +kernel
theorem dX5_tryAllPlaces_1 : decode cX5_tryAllPlaces 1 = .ok (.getfield 52, 3) := by decide +kernel
theorem dX5_tryAllPlaces_4 : decode cX5_tryAllPlaces 4 = .ok (.getfield 243, 3) := by decide +kernel
theorem dX5_tryAllPlaces_7 : decode cX5_tryAllPlaces 7 = .ok (.astore_n 2, 1) := by decide +kernel
theorem dX5_tryAllPlaces_8 : decode cX5_tryAllPlaces 8 = .ok (.aload_n 0, 1) := by decide +kernel
theorem dX5_tryAllPlaces_9 : decode cX5_tryAllPlaces 9 = .ok (.getfield 52, 3) := by decide +kernel
theorem dX5_tryAllPlaces_12 : decode cX5_tryAllPlaces 12 = .ok (.aload_n 0, 1) := by decide +kernel
theorem dX5_tryAllPlaces_13 : decode cX5_tryAllPlaces 13 = .ok (.getfield 12, 3) := by decide +kernel
theorem dX5_tryAllPlaces_16 : decode cX5_tryAllPlaces 16 = .ok (.getfield 79, 3) := by decide +kernel
theorem dX5_tryAllPlaces_19 : decode cX5_tryAllPlaces 19 = .ok (.invokevirtual 102, 3) := by decide +kernel
theorem dX5_tryAllPlaces_22 : decode cX5_tryAllPlaces 22 = .ok (.iconst 0, 1) := by decide +kernel
theorem dX5_tryAllPlaces_23 : decode cX5_tryAllPlaces 23 = .ok (.istore_n 3, 1) := by decide +kernel
theorem dX5_tryAllPlaces_24 : decode cX5_tryAllPlaces 24 = .ok (.aload_n 2, 1) := by decide +kernel
theorem dX5_tryAllPlaces_25 : decode cX5_tryAllPlaces 25 = .ok (.ifnull 83, 3) := by decide +kernel
theorem dX5_tryAllPlaces_28 : decode cX5_tryAllPlaces 28 = .ok (.iload_n 3, 1) := by decide +kernel
theorem dX5_tryAllPlaces_29 : decode cX5_tryAllPlaces 29 = .ok (.aload_n 0, 1) := by decide +kernel
theorem dX5_tryAllPlaces_30 : decode cX5_tryAllPlaces 30 = .ok (.getfield 25, 3) := by decide +kernel
theorem dX5_tryAllPlaces_33 : decode cX5_tryAllPlaces 33 = .ok (.getfield 89, 3) := by decide +kernel
theorem dX5_tryAllPlaces_36 : decode cX5_tryAllPlaces 36 = .ok (.if_icmp .gt 72, 3) := by decide +kernel
theorem dX5_tryAllPlaces_39 : decode cX5_tryAllPlaces 39 = .ok (.iload_n 3, 1) := by decide +kernel
theorem dX5_tryAllPlaces_40 : decode cX5_tryAllPlaces 40 = .ok (.bipush 48, 2) := by decide +kernel
theorem dX5_tryAllPlaces_42 : decode cX5_tryAllPlaces 42 = .ok (.if_icmp .ge 66, 3) := by decide +kernel
theorem dX5_tryAllPlaces_45 : decode cX5_tryAllPlaces 45 = .ok (.aload_n 2, 1) := by decide +kernel
theorem dX5_tryAllPlaces_46 : decode cX5_tryAllPlaces 46 = .ok (.aload_n 0, 1) := by decide +kernel
theorem dX5_tryAllPlaces_47 : decode cX5_tryAllPlaces 47 = .ok (.getfield 52, 3) := by decide +kernel
theorem dX5_tryAllPlaces_50 : decode cX5_tryAllPlaces 50 = .ok (.invokevirtual 246, 3) := by decide +kernel
theorem dX5_tryAllPlaces_53 : decode cX5_tryAllPlaces 53 = .ok (.aload_n 2, 1) := by decide +kernel
theorem dX5_tryAllPlaces_54 : decode cX5_tryAllPlaces 54 = .ok (.iload_n 1, 1) := by decide +kernel
theorem dX5_tryAllPlaces_55 : decode cX5_tryAllPlaces 55 = .ok (.invokevirtual 155, 3) := by decide +kernel
theorem dX5_tryAllPlaces_58 : decode cX5_tryAllPlaces 58 = .ok (.aload_n 2, 1) := by decide +kernel
theorem dX5_tryAllPlaces_59 : decode cX5_tryAllPlaces 59 = .ok (.aload_n 0, 1) := by decide +kernel
theorem dX5_tryAllPlaces_60 : decode cX5_tryAllPlaces 60 = .ok (.getfield 25, 3) := by decide +kernel
theorem dX5_tryAllPlaces_63 : decode cX5_tryAllPlaces 63 = .ok (.iload_n 3, 1) := by decide +kernel
theorem dX5_tryAllPlaces_64 : decode cX5_tryAllPlaces 64 = .ok (.aload_n 0, 1) := by decide +kernel
theorem dX5_tryAllPlaces_65 : decode cX5_tryAllPlaces 65 = .ok (.getfield 25, 3) := by decide +kernel
theorem dX5_tryAllPlaces_68 : decode cX5_tryAllPlaces 68 = .ok (.getfield 89, 3) := by decide +kernel
theorem dX5_tryAllPlaces_71 : decode cX5_tryAllPlaces 71 = .ok (.invokevirtual 105, 3) := by decide +kernel
theorem dX5_tryAllPlaces_74 : decode cX5_tryAllPlaces 74 = .ok (.pop, 1) := by decide +kernel
theorem dX5_tryAllPlaces_75 : decode cX5_tryAllPlaces 75 = .ok (.aload_n 0, 1) := by decide +kernel
theorem dX5_tryAllPlaces_76 : decode cX5_tryAllPlaces 76 = .ok (.getfield 43, 3) := by decide +kernel
theorem dX5_tryAllPlaces_79 : decode cX5_tryAllPlaces 79 = .ok (.iload_n 3, 1) := by decide +kernel
theorem dX5_tryAllPlaces_80 : decode cX5_tryAllPlaces 80 = .ok (.aload_n 2, 1) := by decide +kernel
theorem dX5_tryAllPlaces_81 : decode cX5_tryAllPlaces 81 = .ok (.iload_n 1, 1) := by decide +kernel
theorem dX5_tryAllPlaces_82 : decode cX5_tryAllPlaces 82 = .ok (.invokevirtual 122, 3) := by decide +kernel
theorem dX5_tryAllPlaces_85 : decode cX5_tryAllPlaces 85 = .ok (.iastore, 1) := by decide +kernel
theorem dX5_tryAllPlaces_86 : decode cX5_tryAllPlaces 86 = .ok (.aload_n 0, 1) := by decide +kernel
theorem dX5_tryAllPlaces_87 : decode cX5_tryAllPlaces 87 = .ok (.getfield 52, 3) := by decide +kernel
theorem dX5_tryAllPlaces_90 : decode cX5_tryAllPlaces 90 = .ok (.aload_n 0, 1) := by decide +kernel
theorem dX5_tryAllPlaces_91 : decode cX5_tryAllPlaces 91 = .ok (.getfield 25, 3) := by decide +kernel
theorem dX5_tryAllPlaces_94 : decode cX5_tryAllPlaces 94 = .ok (.iload_n 3, 1) := by decide +kernel
theorem dX5_tryAllPlaces_95 : decode cX5_tryAllPlaces 95 = .ok (.iload_n 3, 1) := by decide +kernel
theorem dX5_tryAllPlaces_96 : decode cX5_tryAllPlaces 96 = .ok (.iconst 1, 1) := by decide +kernel
theorem dX5_tryAllPlaces_97 : decode cX5_tryAllPlaces 97 = .ok (.iadd, 1) := by decide +kernel
theorem dX5_tryAllPlaces_98 : decode cX5_tryAllPlaces 98 = .ok (.invokevirtual 105, 3) := by decide +kernel
theorem dX5_tryAllPlaces_101 : decode cX5_tryAllPlaces 101 = .ok (.pop, 1) := by decide +kernel
theorem dX5_tryAllPlaces_102 : decode cX5_tryAllPlaces 102 = .ok (.iinc 3 1, 3) := by decide +kernel
theorem dX5_tryAllPlaces_105 : decode cX5_tryAllPlaces 105 = .ok (.goto (-81), 3) := by decide +kernel
theorem dX5_tryAllPlaces_108 : decode cX5_tryAllPlaces 108 = .ok (.return_, 1) := by decide +kernel
theorem dX5_bedComingAt_0 : decode cX5_bedComingAt 0 = .ok (.iload_n 1, 1) := by decide +kernel
theorem dX5_bedComingAt_1 : decode cX5_bedComingAt 1 = .ok (.ifCond .lt 18, 3) := by decide +kernel
theorem dX5_bedComingAt_4 : decode cX5_bedComingAt 4 = .ok (.iload_n 1, 1) := by decide +kernel
theorem dX5_bedComingAt_5 : decode cX5_bedComingAt 5 = .ok (.bipush 48, 2) := by decide +kernel
theorem dX5_bedComingAt_7 : decode cX5_bedComingAt 7 = .ok (.if_icmp .ge 12, 3) := by decide +kernel
theorem dX5_bedComingAt_10 : decode cX5_bedComingAt 10 = .ok (.aload_n 0, 1) := by decide +kernel
theorem dX5_bedComingAt_11 : decode cX5_bedComingAt 11 = .ok (.getfield 43, 3) := by decide +kernel
theorem dX5_bedComingAt_14 : decode cX5_bedComingAt 14 = .ok (.iload_n 1, 1) := by decide +kernel
theorem dX5_bedComingAt_15 : decode cX5_bedComingAt 15 = .ok (.iaload, 1) := by decide +kernel
theorem dX5_bedComingAt_16 : decode cX5_bedComingAt 16 = .ok (.goto 4, 3) := by decide +kernel
theorem dX5_bedComingAt_19 : decode cX5_bedComingAt 19 = .ok (.iconst (-1), 1) := by decide +kernel
theorem dX5_bedComingAt_20 : decode cX5_bedComingAt 20 = .ok (.ireturn, 1) := by decide +kernel
theorem dX5_worthComingAt_0 : decode cX5_worthComingAt 0 = .ok (.aload_n 0, 1) := by decide +kernel
theorem dX5_worthComingAt_1 : decode cX5_worthComingAt 1 = .ok (.iload_n 2, 1) := by decide +kernel
theorem dX5_worthComingAt_2 : decode cX5_worthComingAt 2 = .ok (.invokevirtual 149, 3) := by decide +kernel
theorem dX5_worthComingAt_5 : decode cX5_worthComingAt 5 = .ok (.istore_n 3, 1) := by decide +kernel
theorem dX5_worthComingAt_6 : decode cX5_worthComingAt 6 = .ok (.iload_n 3, 1) := by decide +kernel
theorem dX5_worthComingAt_7 : decode cX5_worthComingAt 7 = .ok (.iconst (-1), 1) := by decide +kernel
theorem dX5_worthComingAt_8 : decode cX5_worthComingAt 8 = .ok (.if_icmp .ne 7, 3) := by decide +kernel
theorem dX5_worthComingAt_11 : decode cX5_worthComingAt 11 = .ok (.iconst (-1), 1) := by decide +kernel
theorem dX5_worthComingAt_12 : decode cX5_worthComingAt 12 = .ok (.goto 12, 3) := by decide +kernel
theorem dX5_worthComingAt_15 : decode cX5_worthComingAt 15 = .ok (.aload_n 0, 1) := by decide +kernel
theorem dX5_worthComingAt_16 : decode cX5_worthComingAt 16 = .ok (.getfield 12, 3) := by decide +kernel
theorem dX5_worthComingAt_19 : decode cX5_worthComingAt 19 = .ok (.iload_n 1, 1) := by decide +kernel
theorem dX5_worthComingAt_20 : decode cX5_worthComingAt 20 = .ok (.iload_n 3, 1) := by decide +kernel
theorem dX5_worthComingAt_21 : decode cX5_worthComingAt 21 = .ok (.invokevirtual 71, 3) := by decide +kernel
theorem dX5_worthComingAt_24 : decode cX5_worthComingAt 24 = .ok (.ireturn, 1) := by decide +kernel
theorem dX5_spreadFrom_0 : decode cX5_spreadFrom 0 = .ok (.aload_n 0, 1) := by decide +kernel
theorem dX5_spreadFrom_1 : decode cX5_spreadFrom 1 = .ok (.getfield 52, 3) := by decide +kernel
theorem dX5_spreadFrom_4 : decode cX5_spreadFrom 4 = .ok (.aload_n 0, 1) := by decide +kernel
theorem dX5_spreadFrom_5 : decode cX5_spreadFrom 5 = .ok (.getfield 12, 3) := by decide +kernel
theorem dX5_spreadFrom_8 : decode cX5_spreadFrom 8 = .ok (.getfield 79, 3) := by decide +kernel
theorem dX5_spreadFrom_11 : decode cX5_spreadFrom 11 = .ok (.invokevirtual 102, 3) := by decide +kernel
theorem dX5_spreadFrom_14 : decode cX5_spreadFrom 14 = .ok (.aload_n 0, 1) := by decide +kernel
theorem dX5_spreadFrom_15 : decode cX5_spreadFrom 15 = .ok (.getfield 52, 3) := by decide +kernel
theorem dX5_spreadFrom_18 : decode cX5_spreadFrom 18 = .ok (.iload_n 1, 1) := by decide +kernel
theorem dX5_spreadFrom_19 : decode cX5_spreadFrom 19 = .ok (.invokevirtual 250, 3) := by decide +kernel
theorem dX5_spreadFrom_22 : decode cX5_spreadFrom 22 = .ok (.aload_n 0, 1) := by decide +kernel
theorem dX5_spreadFrom_23 : decode cX5_spreadFrom 23 = .ok (.getfield 52, 3) := by decide +kernel
theorem dX5_spreadFrom_26 : decode cX5_spreadFrom 26 = .ok (.aload_n 0, 1) := by decide +kernel
theorem dX5_spreadFrom_27 : decode cX5_spreadFrom 27 = .ok (.getfield 25, 3) := by decide +kernel
theorem dX5_spreadFrom_30 : decode cX5_spreadFrom 30 = .ok (.iconst 0, 1) := by decide +kernel
theorem dX5_spreadFrom_31 : decode cX5_spreadFrom 31 = .ok (.aload_n 0, 1) := by decide +kernel
theorem dX5_spreadFrom_32 : decode cX5_spreadFrom 32 = .ok (.getfield 25, 3) := by decide +kernel
theorem dX5_spreadFrom_35 : decode cX5_spreadFrom 35 = .ok (.getfield 89, 3) := by decide +kernel
theorem dX5_spreadFrom_38 : decode cX5_spreadFrom 38 = .ok (.invokevirtual 105, 3) := by decide +kernel
theorem dX5_spreadFrom_41 : decode cX5_spreadFrom 41 = .ok (.pop, 1) := by decide +kernel
theorem dX5_spreadFrom_42 : decode cX5_spreadFrom 42 = .ok (.return_, 1) := by decide +kernel
theorem dX5_weightOf_0 : decode cX5_weightOf 0 = .ok (.iload_n 2, 1) := by decide +kernel
theorem dX5_weightOf_1 : decode cX5_weightOf 1 = .ok (.ifCond .gt 18, 3) := by decide +kernel
theorem dX5_weightOf_4 : decode cX5_weightOf 4 = .ok (.aload_n 0, 1) := by decide +kernel
theorem dX5_weightOf_5 : decode cX5_weightOf 5 = .ok (.iload_n 1, 1) := by decide +kernel
theorem dX5_weightOf_6 : decode cX5_weightOf 6 = .ok (.invokevirtual 125, 3) := by decide +kernel
theorem dX5_weightOf_9 : decode cX5_weightOf 9 = .ok (.iconst (-1), 1) := by decide +kernel
theorem dX5_weightOf_10 : decode cX5_weightOf 10 = .ok (.if_icmp .ne 7, 3) := by decide +kernel
theorem dX5_weightOf_13 : decode cX5_weightOf 13 = .ok (.lconst 0, 1) := by decide +kernel
theorem dX5_weightOf_14 : decode cX5_weightOf 14 = .ok (.goto 4, 3) := by decide +kernel
theorem dX5_weightOf_17 : decode cX5_weightOf 17 = .ok (.lconst 1, 1) := by decide +kernel
theorem dX5_weightOf_18 : decode cX5_weightOf 18 = .ok (.lreturn, 1) := by decide +kernel
theorem dX5_weightOf_19 : decode cX5_weightOf 19 = .ok (.aload_n 0, 1) := by decide +kernel
theorem dX5_weightOf_20 : decode cX5_weightOf 20 = .ok (.getfield 243, 3) := by decide +kernel
theorem dX5_weightOf_23 : decode cX5_weightOf 23 = .ok (.astore 4, 2) := by decide +kernel
theorem dX5_weightOf_25 : decode cX5_weightOf 25 = .ok (.aload 4, 2) := by decide +kernel
theorem dX5_weightOf_27 : decode cX5_weightOf 27 = .ok (.ifnonnull 5, 3) := by decide +kernel
theorem dX5_weightOf_30 : decode cX5_weightOf 30 = .ok (.lconst 0, 1) := by decide +kernel
theorem dX5_weightOf_31 : decode cX5_weightOf 31 = .ok (.lreturn, 1) := by decide +kernel
theorem dX5_weightOf_32 : decode cX5_weightOf 32 = .ok (.aload 4, 2) := by decide +kernel
theorem dX5_weightOf_34 : decode cX5_weightOf 34 = .ok (.aload_n 0, 1) := by decide +kernel
theorem dX5_weightOf_35 : decode cX5_weightOf 35 = .ok (.invokevirtual 246, 3) := by decide +kernel
theorem dX5_weightOf_38 : decode cX5_weightOf 38 = .ok (.aload 4, 2) := by decide +kernel
theorem dX5_weightOf_40 : decode cX5_weightOf 40 = .ok (.bipush 8, 2) := by decide +kernel
theorem dX5_weightOf_42 : decode cX5_weightOf 42 = .ok (.invokevirtual 155, 3) := by decide +kernel
theorem dX5_weightOf_45 : decode cX5_weightOf 45 = .ok (.aload 4, 2) := by decide +kernel
theorem dX5_weightOf_47 : decode cX5_weightOf 47 = .ok (.iload_n 1, 1) := by decide +kernel
theorem dX5_weightOf_48 : decode cX5_weightOf 48 = .ok (.iload_n 2, 1) := by decide +kernel
theorem dX5_weightOf_49 : decode cX5_weightOf 49 = .ok (.iconst 1, 1) := by decide +kernel
theorem dX5_weightOf_50 : decode cX5_weightOf 50 = .ok (.isub, 1) := by decide +kernel
theorem dX5_weightOf_51 : decode cX5_weightOf 51 = .ok (.iload_n 3, 1) := by decide +kernel
theorem dX5_weightOf_52 : decode cX5_weightOf 52 = .ok (.invokestatic 211, 3) := by decide +kernel
theorem dX5_weightOf_55 : decode cX5_weightOf 55 = .ok (.lstore 5, 2) := by decide +kernel
theorem dX5_weightOf_57 : decode cX5_weightOf 57 = .ok (.aload 4, 2) := by decide +kernel
theorem dX5_weightOf_59 : decode cX5_weightOf 59 = .ok (.aload_n 0, 1) := by decide +kernel
theorem dX5_weightOf_60 : decode cX5_weightOf 60 = .ok (.invokevirtual 246, 3) := by decide +kernel
theorem dX5_weightOf_63 : decode cX5_weightOf 63 = .ok (.aload 4, 2) := by decide +kernel
theorem dX5_weightOf_65 : decode cX5_weightOf 65 = .ok (.invokevirtual 253, 3) := by decide +kernel
theorem dX5_weightOf_68 : decode cX5_weightOf 68 = .ok (.aload 4, 2) := by decide +kernel
theorem dX5_weightOf_70 : decode cX5_weightOf 70 = .ok (.iload_n 1, 1) := by decide +kernel
theorem dX5_weightOf_71 : decode cX5_weightOf 71 = .ok (.iload_n 2, 1) := by decide +kernel
theorem dX5_weightOf_72 : decode cX5_weightOf 72 = .ok (.iconst 1, 1) := by decide +kernel
theorem dX5_weightOf_73 : decode cX5_weightOf 73 = .ok (.isub, 1) := by decide +kernel
theorem dX5_weightOf_74 : decode cX5_weightOf 74 = .ok (.iload_n 3, 1) := by decide +kernel
theorem dX5_weightOf_75 : decode cX5_weightOf 75 = .ok (.invokestatic 211, 3) := by decide +kernel
theorem dX5_weightOf_78 : decode cX5_weightOf 78 = .ok (.lstore 7, 2) := by decide +kernel
theorem dX5_weightOf_80 : decode cX5_weightOf 80 = .ok (.iload_n 3, 1) := by decide +kernel
theorem dX5_weightOf_81 : decode cX5_weightOf 81 = .ok (.i2l, 1) := by decide +kernel
theorem dX5_weightOf_82 : decode cX5_weightOf 82 = .ok (.lload 5, 2) := by decide +kernel
theorem dX5_weightOf_84 : decode cX5_weightOf 84 = .ok (.lmul, 1) := by decide +kernel
theorem dX5_weightOf_85 : decode cX5_weightOf 85 = .ok (.bipush 10, 2) := by decide +kernel
theorem dX5_weightOf_87 : decode cX5_weightOf 87 = .ok (.iload_n 3, 1) := by decide +kernel
theorem dX5_weightOf_88 : decode cX5_weightOf 88 = .ok (.isub, 1) := by decide +kernel
theorem dX5_weightOf_89 : decode cX5_weightOf 89 = .ok (.i2l, 1) := by decide +kernel
theorem dX5_weightOf_90 : decode cX5_weightOf 90 = .ok (.lload 7, 2) := by decide +kernel
theorem dX5_weightOf_92 : decode cX5_weightOf 92 = .ok (.lmul, 1) := by decide +kernel
theorem dX5_weightOf_93 : decode cX5_weightOf 93 = .ok (.ladd, 1) := by decide +kernel
theorem dX5_weightOf_94 : decode cX5_weightOf 94 = .ok (.lreturn, 1) := by decide +kernel
theorem dX5_partInLowestTerms_0 : decode cX5_partInLowestTerms 0 = .ok (.lload_n 0, 1) := by decide +kernel
theorem dX5_partInLowestTerms_1 : decode cX5_partInLowestTerms 1 = .ok (.lstore 4, 2) := by decide +kernel
theorem dX5_partInLowestTerms_3 : decode cX5_partInLowestTerms 3 = .ok (.lconst 1, 1) := by decide +kernel
theorem dX5_partInLowestTerms_4 : decode cX5_partInLowestTerms 4 = .ok (.lstore 6, 2) := by decide +kernel
theorem dX5_partInLowestTerms_6 : decode cX5_partInLowestTerms 6 = .ok (.iconst 0, 1) := by decide +kernel
theorem dX5_partInLowestTerms_7 : decode cX5_partInLowestTerms 7 = .ok (.istore 8, 2) := by decide +kernel
theorem dX5_partInLowestTerms_9 : decode cX5_partInLowestTerms 9 = .ok (.iload 8, 2) := by decide +kernel
theorem dX5_partInLowestTerms_11 : decode cX5_partInLowestTerms 11 = .ok (.iload_n 2, 1) := by decide +kernel
theorem dX5_partInLowestTerms_12 : decode cX5_partInLowestTerms 12 = .ok (.if_icmp .ge 17, 3) := by decide +kernel
theorem dX5_partInLowestTerms_15 : decode cX5_partInLowestTerms 15 = .ok (.lload 6, 2) := by decide +kernel
theorem dX5_partInLowestTerms_17 : decode cX5_partInLowestTerms 17 = .ok (.ldc2_w 256, 3) := by decide +kernel
theorem dX5_partInLowestTerms_20 : decode cX5_partInLowestTerms 20 = .ok (.lmul, 1) := by decide +kernel
theorem dX5_partInLowestTerms_21 : decode cX5_partInLowestTerms 21 = .ok (.lstore 6, 2) := by decide +kernel
theorem dX5_partInLowestTerms_23 : decode cX5_partInLowestTerms 23 = .ok (.iinc 8 1, 3) := by decide +kernel
theorem dX5_partInLowestTerms_26 : decode cX5_partInLowestTerms 26 = .ok (.goto (-17), 3) := by decide +kernel
theorem dX5_partInLowestTerms_29 : decode cX5_partInLowestTerms 29 = .ok (.iconst 0, 1) := by decide +kernel
theorem dX5_partInLowestTerms_30 : decode cX5_partInLowestTerms 30 = .ok (.istore 8, 2) := by decide +kernel
theorem dX5_partInLowestTerms_32 : decode cX5_partInLowestTerms 32 = .ok (.iload 8, 2) := by decide +kernel
theorem dX5_partInLowestTerms_34 : decode cX5_partInLowestTerms 34 = .ok (.iload_n 2, 1) := by decide +kernel
theorem dX5_partInLowestTerms_35 : decode cX5_partInLowestTerms 35 = .ok (.if_icmp .ge 85, 3) := by decide +kernel
theorem dX5_partInLowestTerms_38 : decode cX5_partInLowestTerms 38 = .ok (.lload 4, 2) := by decide +kernel
theorem dX5_partInLowestTerms_40 : decode cX5_partInLowestTerms 40 = .ok (.ldc2_w 258, 3) := by decide +kernel
theorem dX5_partInLowestTerms_43 : decode cX5_partInLowestTerms 43 = .ok (.lrem, 1) := by decide +kernel
theorem dX5_partInLowestTerms_44 : decode cX5_partInLowestTerms 44 = .ok (.lconst 0, 1) := by decide +kernel
theorem dX5_partInLowestTerms_45 : decode cX5_partInLowestTerms 45 = .ok (.lcmp, 1) := by decide +kernel
theorem dX5_partInLowestTerms_46 : decode cX5_partInLowestTerms 46 = .ok (.ifCond .ne 30, 3) := by decide +kernel
theorem dX5_partInLowestTerms_49 : decode cX5_partInLowestTerms 49 = .ok (.lload 6, 2) := by decide +kernel
theorem dX5_partInLowestTerms_51 : decode cX5_partInLowestTerms 51 = .ok (.ldc2_w 258, 3) := by decide +kernel
theorem dX5_partInLowestTerms_54 : decode cX5_partInLowestTerms 54 = .ok (.lrem, 1) := by decide +kernel
theorem dX5_partInLowestTerms_55 : decode cX5_partInLowestTerms 55 = .ok (.lconst 0, 1) := by decide +kernel
theorem dX5_partInLowestTerms_56 : decode cX5_partInLowestTerms 56 = .ok (.lcmp, 1) := by decide +kernel
theorem dX5_partInLowestTerms_57 : decode cX5_partInLowestTerms 57 = .ok (.ifCond .ne 19, 3) := by decide +kernel
theorem dX5_partInLowestTerms_60 : decode cX5_partInLowestTerms 60 = .ok (.lload 4, 2) := by decide +kernel
theorem dX5_partInLowestTerms_62 : decode cX5_partInLowestTerms 62 = .ok (.ldc2_w 258, 3) := by decide +kernel
theorem dX5_partInLowestTerms_65 : decode cX5_partInLowestTerms 65 = .ok (.ldiv, 1) := by decide +kernel
theorem dX5_partInLowestTerms_66 : decode cX5_partInLowestTerms 66 = .ok (.lstore 4, 2) := by decide +kernel
theorem dX5_partInLowestTerms_68 : decode cX5_partInLowestTerms 68 = .ok (.lload 6, 2) := by decide +kernel
theorem dX5_partInLowestTerms_70 : decode cX5_partInLowestTerms 70 = .ok (.ldc2_w 258, 3) := by decide +kernel
theorem dX5_partInLowestTerms_73 : decode cX5_partInLowestTerms 73 = .ok (.ldiv, 1) := by decide +kernel
theorem dX5_partInLowestTerms_74 : decode cX5_partInLowestTerms 74 = .ok (.lstore 6, 2) := by decide +kernel
theorem dX5_partInLowestTerms_76 : decode cX5_partInLowestTerms 76 = .ok (.lload 4, 2) := by decide +kernel
theorem dX5_partInLowestTerms_78 : decode cX5_partInLowestTerms 78 = .ok (.ldc2_w 260, 3) := by decide +kernel
theorem dX5_partInLowestTerms_81 : decode cX5_partInLowestTerms 81 = .ok (.lrem, 1) := by decide +kernel
theorem dX5_partInLowestTerms_82 : decode cX5_partInLowestTerms 82 = .ok (.lconst 0, 1) := by decide +kernel
theorem dX5_partInLowestTerms_83 : decode cX5_partInLowestTerms 83 = .ok (.lcmp, 1) := by decide +kernel
theorem dX5_partInLowestTerms_84 : decode cX5_partInLowestTerms 84 = .ok (.ifCond .ne 30, 3) := by decide +kernel
theorem dX5_partInLowestTerms_87 : decode cX5_partInLowestTerms 87 = .ok (.lload 6, 2) := by decide +kernel
theorem dX5_partInLowestTerms_89 : decode cX5_partInLowestTerms 89 = .ok (.ldc2_w 260, 3) := by decide +kernel
theorem dX5_partInLowestTerms_92 : decode cX5_partInLowestTerms 92 = .ok (.lrem, 1) := by decide +kernel
theorem dX5_partInLowestTerms_93 : decode cX5_partInLowestTerms 93 = .ok (.lconst 0, 1) := by decide +kernel
theorem dX5_partInLowestTerms_94 : decode cX5_partInLowestTerms 94 = .ok (.lcmp, 1) := by decide +kernel
theorem dX5_partInLowestTerms_95 : decode cX5_partInLowestTerms 95 = .ok (.ifCond .ne 19, 3) := by decide +kernel
theorem dX5_partInLowestTerms_98 : decode cX5_partInLowestTerms 98 = .ok (.lload 4, 2) := by decide +kernel
theorem dX5_partInLowestTerms_100 : decode cX5_partInLowestTerms 100 = .ok (.ldc2_w 260, 3) := by decide +kernel
theorem dX5_partInLowestTerms_103 : decode cX5_partInLowestTerms 103 = .ok (.ldiv, 1) := by decide +kernel
theorem dX5_partInLowestTerms_104 : decode cX5_partInLowestTerms 104 = .ok (.lstore 4, 2) := by decide +kernel
theorem dX5_partInLowestTerms_106 : decode cX5_partInLowestTerms 106 = .ok (.lload 6, 2) := by decide +kernel
theorem dX5_partInLowestTerms_108 : decode cX5_partInLowestTerms 108 = .ok (.ldc2_w 260, 3) := by decide +kernel
theorem dX5_partInLowestTerms_111 : decode cX5_partInLowestTerms 111 = .ok (.ldiv, 1) := by decide +kernel
theorem dX5_partInLowestTerms_112 : decode cX5_partInLowestTerms 112 = .ok (.lstore 6, 2) := by decide +kernel
theorem dX5_partInLowestTerms_114 : decode cX5_partInLowestTerms 114 = .ok (.iinc 8 1, 3) := by decide +kernel
theorem dX5_partInLowestTerms_117 : decode cX5_partInLowestTerms 117 = .ok (.goto (-85), 3) := by decide +kernel
theorem dX5_partInLowestTerms_120 : decode cX5_partInLowestTerms 120 = .ok (.iload_n 3, 1) := by decide +kernel
theorem dX5_partInLowestTerms_121 : decode cX5_partInLowestTerms 121 = .ok (.ifCond .ne 8, 3) := by decide +kernel
theorem dX5_partInLowestTerms_124 : decode cX5_partInLowestTerms 124 = .ok (.lload 4, 2) := by decide +kernel
theorem dX5_partInLowestTerms_126 : decode cX5_partInLowestTerms 126 = .ok (.goto 5, 3) := by decide +kernel
theorem dX5_partInLowestTerms_129 : decode cX5_partInLowestTerms 129 = .ok (.lload 6, 2) := by decide +kernel
theorem dX5_partInLowestTerms_131 : decode cX5_partInLowestTerms 131 = .ok (.lreturn, 1) := by decide +kernel
theorem dX5_worthTold_0 : decode cX5_worthTold 0 = .ok (.iload_n 1, 1) := by decide +kernel
theorem dX5_worthTold_1 : decode cX5_worthTold 1 = .ok (.bipush 10, 2) := by decide +kernel
theorem dX5_worthTold_3 : decode cX5_worthTold 3 = .ok (.if_icmp .lt 9, 3) := by decide +kernel
theorem dX5_worthTold_6 : decode cX5_worthTold 6 = .ok (.iload_n 1, 1) := by decide +kernel
theorem dX5_worthTold_7 : decode cX5_worthTold 7 = .ok (.bipush 87, 2) := by decide +kernel
theorem dX5_worthTold_9 : decode cX5_worthTold 9 = .ok (.if_icmp .le 6, 3) := by decide +kernel
theorem dX5_worthTold_12 : decode cX5_worthTold 12 = .ok (.bipush (-2), 2) := by decide +kernel
theorem dX5_worthTold_14 : decode cX5_worthTold 14 = .ok (.ireturn, 1) := by decide +kernel
theorem dX5_worthTold_15 : decode cX5_worthTold 15 = .ok (.iload_n 1, 1) := by decide +kernel
theorem dX5_worthTold_16 : decode cX5_worthTold 16 = .ok (.bipush 10, 2) := by decide +kernel
theorem dX5_worthTold_18 : decode cX5_worthTold 18 = .ok (.idiv, 1) := by decide +kernel
theorem dX5_worthTold_19 : decode cX5_worthTold 19 = .ok (.iconst 1, 1) := by decide +kernel
theorem dX5_worthTold_20 : decode cX5_worthTold 20 = .ok (.isub, 1) := by decide +kernel
theorem dX5_worthTold_21 : decode cX5_worthTold 21 = .ok (.istore_n 2, 1) := by decide +kernel
theorem dX5_worthTold_22 : decode cX5_worthTold 22 = .ok (.iload_n 1, 1) := by decide +kernel
theorem dX5_worthTold_23 : decode cX5_worthTold 23 = .ok (.bipush 10, 2) := by decide +kernel
theorem dX5_worthTold_25 : decode cX5_worthTold 25 = .ok (.irem, 1) := by decide +kernel
theorem dX5_worthTold_26 : decode cX5_worthTold 26 = .ok (.istore_n 3, 1) := by decide +kernel
theorem dX5_worthTold_27 : decode cX5_worthTold 27 = .ok (.aload_n 0, 1) := by decide +kernel
theorem dX5_worthTold_28 : decode cX5_worthTold 28 = .ok (.iload_n 3, 1) := by decide +kernel
theorem dX5_worthTold_29 : decode cX5_worthTold 29 = .ok (.invokevirtual 68, 3) := by decide +kernel
theorem dX5_worthTold_32 : decode cX5_worthTold 32 = .ok (.ifCond .eq 15, 3) := by decide +kernel
theorem dX5_worthTold_35 : decode cX5_worthTold 35 = .ok (.aload_n 0, 1) := by decide +kernel
theorem dX5_worthTold_36 : decode cX5_worthTold 36 = .ok (.getfield 12, 3) := by decide +kernel
theorem dX5_worthTold_39 : decode cX5_worthTold 39 = .ok (.iload_n 2, 1) := by decide +kernel
theorem dX5_worthTold_40 : decode cX5_worthTold 40 = .ok (.iload_n 3, 1) := by decide +kernel
theorem dX5_worthTold_41 : decode cX5_worthTold 41 = .ok (.invokevirtual 71, 3) := by decide +kernel
theorem dX5_worthTold_44 : decode cX5_worthTold 44 = .ok (.goto 5, 3) := by decide +kernel
theorem dX5_worthTold_47 : decode cX5_worthTold 47 = .ok (.bipush (-2), 2) := by decide +kernel
theorem dX5_worthTold_49 : decode cX5_worthTold 49 = .ok (.ireturn, 1) := by decide +kernel
theorem dX6_init_0 : decode cX6_init 0 = .ok (.aload_n 0, 1) := by decide +kernel
theorem dX6_init_1 : decode cX6_init 1 = .ok (.invokespecial 1, 3) := by decide +kernel
theorem dX6_init_4 : decode cX6_init 4 = .ok (.aload_n 0, 1) := by decide +kernel
theorem dX6_init_5 : decode cX6_init 5 = .ok (.iconst 4, 1) := by decide +kernel
theorem dX6_init_6 : decode cX6_init 6 = .ok (.putfield 7, 3) := by decide +kernel
theorem dX6_init_9 : decode cX6_init 9 = .ok (.aload_n 0, 1) := by decide +kernel
theorem dX6_init_10 : decode cX6_init 10 = .ok (.bipush 64, 2) := by decide +kernel
theorem dX6_init_12 : decode cX6_init 12 = .ok (.newarray .int, 2) := by decide +kernel
theorem dX6_init_14 : decode cX6_init 14 = .ok (.putfield 13, 3) := by decide +kernel
theorem dX6_init_17 : decode cX6_init 17 = .ok (.aload_n 0, 1) := by decide +kernel
theorem dX6_init_18 : decode cX6_init 18 = .ok (.bipush 12, 2) := by decide +kernel
theorem dX6_init_20 : decode cX6_init 20 = .ok (.newarray .int, 2) := by decide +kernel
theorem dX6_init_22 : decode cX6_init 22 = .ok (.putfield 17, 3) := by decide +kernel
theorem dX6_init_25 : decode cX6_init 25 = .ok (.aload_n 0, 1) := by decide +kernel
theorem dX6_init_26 : decode cX6_init 26 = .ok (.bipush 48, 2) := by decide +kernel
theorem dX6_init_28 : decode cX6_init 28 = .ok (.newarray .int, 2) := by decide +kernel
theorem dX6_init_30 : decode cX6_init 30 = .ok (.putfield 20, 3) := by decide +kernel
theorem dX6_init_33 : decode cX6_init 33 = .ok (.aload_n 0, 1) := by decide +kernel
theorem dX6_init_34 : decode cX6_init 34 = .ok (.bipush 8, 2) := by decide +kernel
theorem dX6_init_36 : decode cX6_init 36 = .ok (.newarray .int, 2) := by decide +kernel
theorem dX6_init_38 : decode cX6_init 38 = .ok (.putfield 23, 3) := by decide +kernel
theorem dX6_init_41 : decode cX6_init 41 = .ok (.aload_n 0, 1) := by decide +kernel
theorem dX6_init_42 : decode cX6_init 42 = .ok (.bipush 8, 2) := by decide +kernel
theorem dX6_init_44 : decode cX6_init 44 = .ok (.newarray .int, 2) := by decide +kernel
theorem dX6_init_46 : decode cX6_init 46 = .ok (.putfield 26, 3) := by decide +kernel
theorem dX6_init_49 : decode cX6_init 49 = .ok (.aload_n 0, 1) := by decide +kernel
theorem dX6_init_50 : decode cX6_init 50 = .ok (.bipush 64, 2) := by decide +kernel
theorem dX6_init_52 : decode cX6_init 52 = .ok (.newarray .int, 2) := by decide +kernel
theorem dX6_init_54 : decode cX6_init 54 = .ok (.putfield 29, 3) := by decide +kernel
theorem dX6_init_57 : decode cX6_init 57 = .ok (.aload_n 0, 1) := by decide +kernel
theorem dX6_init_58 : decode cX6_init 58 = .ok (.bipush 8, 2) := by decide +kernel
theorem dX6_init_60 : decode cX6_init 60 = .ok (.newarray .int, 2) := by decide +kernel
theorem dX6_init_62 : decode cX6_init 62 = .ok (.putfield 32, 3) := by decide +kernel
theorem dX6_init_65 : decode cX6_init 65 = .ok (.aload_n 0, 1) := by decide +kernel
theorem dX6_init_66 : decode cX6_init 66 = .ok (.bipush 8, 2) := by decide +kernel
theorem dX6_init_68 : decode cX6_init 68 = .ok (.newarray .int, 2) := by decide +kernel
theorem dX6_init_70 : decode cX6_init 70 = .ok (.putfield 35, 3) := by decide +kernel
theorem dX6_init_73 : decode cX6_init 73 = .ok (.aload_n 0, 1) := by decide +kernel
theorem dX6_init_74 : decode cX6_init 74 = .ok (.bipush 8, 2) := by decide +kernel
theorem dX6_init_76 : decode cX6_init 76 = .ok (.newarray .int, 2) := by decide +kernel
theorem dX6_init_78 : decode cX6_init 78 = .ok (.putfield 38, 3) := by decide +kernel
theorem dX6_init_81 : decode cX6_init 81 = .ok (.aload_n 0, 1) := by decide +kernel
theorem dX6_init_82 : decode cX6_init 82 = .ok (.bipush 8, 2) := by decide +kernel
theorem dX6_init_84 : decode cX6_init 84 = .ok (.newarray .int, 2) := by decide +kernel
theorem dX6_init_86 : decode cX6_init 86 = .ok (.putfield 41, 3) := by decide +kernel
theorem dX6_init_89 : decode cX6_init 89 = .ok (.aload_n 0, 1) := by decide +kernel
theorem dX6_init_90 : decode cX6_init 90 = .ok (.bipush 8, 2) := by decide +kernel
theorem dX6_init_92 : decode cX6_init 92 = .ok (.newarray .int, 2) := by decide +kernel
theorem dX6_init_94 : decode cX6_init 94 = .ok (.putfield 44, 3) := by decide +kernel
theorem dX6_init_97 : decode cX6_init 97 = .ok (.aload_n 0, 1) := by decide +kernel
theorem dX6_init_98 : decode cX6_init 98 = .ok (.bipush 8, 2) := by decide +kernel
theorem dX6_init_100 : decode cX6_init 100 = .ok (.newarray .int, 2) := by decide +kernel
theorem dX6_init_102 : decode cX6_init 102 = .ok (.putfield 47, 3) := by decide +kernel
theorem dX6_init_105 : decode cX6_init 105 = .ok (.aload_n 0, 1) := by decide +kernel
theorem dX6_init_106 : decode cX6_init 106 = .ok (.sipush 160, 3) := by decide +kernel
theorem dX6_init_109 : decode cX6_init 109 = .ok (.newarray .int, 2) := by decide +kernel
theorem dX6_init_111 : decode cX6_init 111 = .ok (.putfield 50, 3) := by decide +kernel
theorem dX6_init_114 : decode cX6_init 114 = .ok (.aload_n 0, 1) := by decide +kernel
theorem dX6_init_115 : decode cX6_init 115 = .ok (.iconst 2, 1) := by decide +kernel
theorem dX6_init_116 : decode cX6_init 116 = .ok (.newarray .boolean, 2) := by decide +kernel
theorem dX6_init_118 : decode cX6_init 118 = .ok (.putfield 53, 3) := by decide +kernel
theorem dX6_init_121 : decode cX6_init 121 = .ok (.aload_n 0, 1) := by decide +kernel
theorem dX6_init_122 : decode cX6_init 122 = .ok (.iconst 0, 1) := by decide +kernel
theorem dX6_init_123 : decode cX6_init 123 = .ok (.putfield 57, 3) := by decide +kernel
theorem dX6_init_126 : decode cX6_init 126 = .ok (.return_, 1) := by decide +kernel
theorem dX6_in_0 : decode cX6_in 0 = .ok (.iload_n 0, 1) := by decide +kernel
theorem dX6_in_1 : decode cX6_in 1 = .ok (.iload_n 1, 1) := by decide +kernel
theorem dX6_in_2 : decode cX6_in 2 = .ok (.if_icmp .lt 12, 3) := by decide +kernel
theorem dX6_in_5 : decode cX6_in 5 = .ok (.iload_n 0, 1) := by decide +kernel
theorem dX6_in_6 : decode cX6_in 6 = .ok (.iload_n 2, 1) := by decide +kernel
theorem dX6_in_7 : decode cX6_in 7 = .ok (.if_icmp .gt 7, 3) := by decide +kernel
theorem dX6_in_10 : decode cX6_in 10 = .ok (.iconst 1, 1) := by decide +kernel
theorem dX6_in_11 : decode cX6_in 11 = .ok (.goto 4, 3) := by decide +kernel
theorem dX6_in_14 : decode cX6_in 14 = .ok (.iconst 0, 1) := by decide +kernel
theorem dX6_in_15 : decode cX6_in 15 = .ok (.ireturn, 1) := by decide +kernel
theorem dX6_has_0 : decode cX6_has 0 = .ok (.iload_n 0, 1) := by decide +kernel
theorem dX6_has_1 : decode cX6_has 1 = .ok (.iload_n 1, 1) := by decide +kernel
theorem dX6_has_2 : decode cX6_has 2 = .ok (.ishr, 1) := by decide +kernel
theorem dX6_has_3 : decode cX6_has 3 = .ok (.iconst 1, 1) := by decide +kernel
theorem dX6_has_4 : decode cX6_has 4 = .ok (.iand, 1) := by decide +kernel
theorem dX6_has_5 : decode cX6_has 5 = .ok (.iconst 1, 1) := by decide +kernel
theorem dX6_has_6 : decode cX6_has 6 = .ok (.if_icmp .ne 7, 3) := by decide +kernel
theorem dX6_has_9 : decode cX6_has 9 = .ok (.iconst 1, 1) := by decide +kernel
theorem dX6_has_10 : decode cX6_has 10 = .ok (.goto 4, 3) := by decide +kernel
theorem dX6_has_13 : decode cX6_has 13 = .ok (.iconst 0, 1) := by decide +kernel
theorem dX6_has_14 : decode cX6_has 14 = .ok (.ireturn, 1) := by decide +kernel
theorem dX6_isGuest_0 : decode cX6_isGuest 0 = .ok (.iload_n 0, 1) := by decide +kernel
theorem dX6_isGuest_1 : decode cX6_isGuest 1 = .ok (.iconst 0, 1) := by decide +kernel
theorem dX6_isGuest_2 : decode cX6_isGuest 2 = .ok (.bipush 7, 2) := by decide +kernel
theorem dX6_isGuest_4 : decode cX6_isGuest 4 = .ok (.invokestatic 60, 3) := by decide +kernel
theorem dX6_isGuest_7 : decode cX6_isGuest 7 = .ok (.ireturn, 1) := by decide +kernel
theorem dX6_isBed_0 : decode cX6_isBed 0 = .ok (.iload_n 1, 1) := by decide +kernel
theorem dX6_isBed_1 : decode cX6_isBed 1 = .ok (.iconst 0, 1) := by decide +kernel
theorem dX6_isBed_2 : decode cX6_isBed 2 = .ok (.aload_n 0, 1) := by decide +kernel
theorem dX6_isBed_3 : decode cX6_isBed 3 = .ok (.getfield 7, 3) := by decide +kernel
theorem dX6_isBed_6 : decode cX6_isBed 6 = .ok (.iconst 1, 1) := by decide +kernel
theorem dX6_isBed_7 : decode cX6_isBed 7 = .ok (.isub, 1) := by decide +kernel
theorem dX6_isBed_8 : decode cX6_isBed 8 = .ok (.invokestatic 60, 3) := by decide +kernel
theorem dX6_isBed_11 : decode cX6_isBed 11 = .ok (.ireturn, 1) := by decide +kernel
theorem dX6_beds_0 : decode cX6_beds 0 = .ok (.iload_n 1, 1) := by decide +kernel
theorem dX6_beds_1 : decode cX6_beds 1 = .ok (.iconst 2, 1) := by decide +kernel
theorem dX6_beds_2 : decode cX6_beds 2 = .ok (.bipush 8, 2) := by decide +kernel
theorem dX6_beds_4 : decode cX6_beds 4 = .ok (.invokestatic 60, 3) := by decide +kernel
theorem dX6_beds_7 : decode cX6_beds 7 = .ok (.ifCond .ne 6, 3) := by decide +kernel
theorem dX6_beds_10 : decode cX6_beds 10 = .ok (.bipush (-2), 2) := by decide +kernel
theorem dX6_beds_12 : decode cX6_beds 12 = .ok (.ireturn, 1) := by decide +kernel
theorem dX6_beds_13 : decode cX6_beds 13 = .ok (.aload_n 0, 1) := by decide +kernel
theorem dX6_beds_14 : decode cX6_beds 14 = .ok (.getfield 7, 3) := by decide +kernel
theorem dX6_beds_17 : decode cX6_beds 17 = .ok (.istore_n 2, 1) := by decide +kernel
theorem dX6_beds_18 : decode cX6_beds 18 = .ok (.aload_n 0, 1) := by decide +kernel
theorem dX6_beds_19 : decode cX6_beds 19 = .ok (.iload_n 1, 1) := by decide +kernel
theorem dX6_beds_20 : decode cX6_beds 20 = .ok (.putfield 7, 3) := by decide +kernel
theorem dX6_beds_23 : decode cX6_beds 23 = .ok (.aload_n 0, 1) := by decide +kernel
theorem dX6_beds_24 : decode cX6_beds 24 = .ok (.iconst 0, 1) := by decide +kernel
theorem dX6_beds_25 : decode cX6_beds 25 = .ok (.putfield 64, 3) := by decide +kernel
theorem dX6_beds_28 : decode cX6_beds 28 = .ok (.iconst 0, 1) := by decide +kernel
theorem dX6_beds_29 : decode cX6_beds 29 = .ok (.istore_n 3, 1) := by decide +kernel
theorem dX6_beds_30 : decode cX6_beds 30 = .ok (.iload_n 3, 1) := by decide +kernel
theorem dX6_beds_31 : decode cX6_beds 31 = .ok (.bipush 64, 2) := by decide +kernel
theorem dX6_beds_33 : decode cX6_beds 33 = .ok (.if_icmp .ge 16, 3) := by decide +kernel
theorem dX6_beds_36 : decode cX6_beds 36 = .ok (.aload_n 0, 1) := by decide +kernel
theorem dX6_beds_37 : decode cX6_beds 37 = .ok (.getfield 13, 3) := by decide +kernel
theorem dX6_beds_40 : decode cX6_beds 40 = .ok (.iload_n 3, 1) := by decide +kernel
theorem dX6_beds_41 : decode cX6_beds 41 = .ok (.iconst 0, 1) := by decide +kernel
theorem dX6_beds_42 : decode cX6_beds 42 = .ok (.iastore, 1) := by decide +kernel
theorem dX6_beds_43 : decode cX6_beds 43 = .ok (.iinc 3 1, 3) := by decide +kernel
theorem dX6_beds_46 : decode cX6_beds 46 = .ok (.goto (-16), 3) := by decide +kernel
theorem dX6_beds_49 : decode cX6_beds 49 = .ok (.iload_n 2, 1) := by decide +kernel
theorem dX6_beds_50 : decode cX6_beds 50 = .ok (.ireturn, 1) := by decide +kernel
theorem dX6_worth_0 : decode cX6_worth 0 = .ok (.iload_n 1, 1) := by decide +kernel
theorem dX6_worth_1 : decode cX6_worth 1 = .ok (.invokestatic 67, 3) := by decide +kernel
theorem dX6_worth_4 : decode cX6_worth 4 = .ok (.ifCond .eq 11, 3) := by decide +kernel
theorem dX6_worth_7 : decode cX6_worth 7 = .ok (.aload_n 0, 1) := by decide +kernel
theorem dX6_worth_8 : decode cX6_worth 8 = .ok (.iload_n 2, 1) := by decide +kernel
theorem dX6_worth_9 : decode cX6_worth 9 = .ok (.invokevirtual 71, 3) := by decide +kernel
theorem dX6_worth_12 : decode cX6_worth 12 = .ok (.ifCond .ne 5, 3) := by decide +kernel
theorem dX6_worth_15 : decode cX6_worth 15 = .ok (.iconst (-1), 1) := by decide +kernel
theorem dX6_worth_16 : decode cX6_worth 16 = .ok (.ireturn, 1) := by decide +kernel
theorem dX6_worth_17 : decode cX6_worth 17 = .ok (.iload_n 3, 1) := by decide +kernel
theorem dX6_worth_18 : decode cX6_worth 18 = .ok (.iconst 0, 1) := by decide +kernel
theorem dX6_worth_19 : decode cX6_worth 19 = .ok (.bipush 99, 2) := by decide +kernel
theorem dX6_worth_21 : decode cX6_worth 21 = .ok (.invokestatic 60, 3) := by decide +kernel
theorem dX6_worth_24 : decode cX6_worth 24 = .ok (.ifCond .ne 6, 3) := by decide +kernel
theorem dX6_worth_27 : decode cX6_worth 27 = .ok (.bipush (-2), 2) := by decide +kernel
theorem dX6_worth_29 : decode cX6_worth 29 = .ok (.ireturn, 1) := by decide +kernel
theorem dX6_worth_30 : decode cX6_worth 30 = .ok (.aload_n 0, 1) := by decide +kernel
theorem dX6_worth_31 : decode cX6_worth 31 = .ok (.getfield 13, 3) := by decide +kernel
theorem dX6_worth_34 : decode cX6_worth 34 = .ok (.bipush 8, 2) := by decide +kernel
theorem dX6_worth_36 : decode cX6_worth 36 = .ok (.iload_n 1, 1) := by decide +kernel
theorem dX6_worth_37 : decode cX6_worth 37 = .ok (.imul, 1) := by decide +kernel
theorem dX6_worth_38 : decode cX6_worth 38 = .ok (.iload_n 2, 1) := by decide +kernel
theorem dX6_worth_39 : decode cX6_worth 39 = .ok (.iadd, 1) := by decide +kernel
theorem dX6_worth_40 : decode cX6_worth 40 = .ok (.iaload, 1) := by decide +kernel
theorem dX6_worth_41 : decode cX6_worth 41 = .ok (.istore 4, 2) := by decide +kernel
theorem dX6_worth_43 : decode cX6_worth 43 = .ok (.aload_n 0, 1) := by decide +kernel
theorem dX6_worth_44 : decode cX6_worth 44 = .ok (.getfield 13, 3) := by decide +kernel
theorem dX6_worth_47 : decode cX6_worth 47 = .ok (.bipush 8, 2) := by decide +kernel
theorem dX6_worth_49 : decode cX6_worth 49 = .ok (.iload_n 1, 1) := by decide +kernel
theorem dX6_worth_50 : decode cX6_worth 50 = .ok (.imul, 1) := by decide +kernel
theorem dX6_worth_51 : decode cX6_worth 51 = .ok (.iload_n 2, 1) := by decide +kernel
theorem dX6_worth_52 : decode cX6_worth 52 = .ok (.iadd, 1) := by decide +kernel
theorem dX6_worth_53 : decode cX6_worth 53 = .ok (.iload_n 3, 1) := by decide +kernel
theorem dX6_worth_54 : decode cX6_worth 54 = .ok (.iastore, 1) := by decide +kernel
theorem dX6_worth_55 : decode cX6_worth 55 = .ok (.iload 4, 2) := by decide +kernel
theorem dX6_worth_57 : decode cX6_worth 57 = .ok (.ireturn, 1) := by decide +kernel
theorem dX6_rule_0 : decode cX6_rule 0 = .ok (.iload_n 1, 1) := by decide +kernel
theorem dX6_rule_1 : decode cX6_rule 1 = .ok (.iconst 0, 1) := by decide +kernel
theorem dX6_rule_2 : decode cX6_rule 2 = .ok (.iconst 3, 1) := by decide +kernel
theorem dX6_rule_3 : decode cX6_rule 3 = .ok (.invokestatic 60, 3) := by decide +kernel
theorem dX6_rule_6 : decode cX6_rule 6 = .ok (.ifCond .ne 6, 3) := by decide +kernel
theorem dX6_rule_9 : decode cX6_rule 9 = .ok (.bipush (-2), 2) := by decide +kernel
theorem dX6_rule_11 : decode cX6_rule 11 = .ok (.ireturn, 1) := by decide +kernel
theorem dX6_rule_12 : decode cX6_rule 12 = .ok (.aload_n 0, 1) := by decide +kernel
theorem dX6_rule_13 : decode cX6_rule 13 = .ok (.getfield 57, 3) := by decide +kernel
theorem dX6_rule_16 : decode cX6_rule 16 = .ok (.istore_n 2, 1) := by decide +kernel
theorem dX6_rule_17 : decode cX6_rule 17 = .ok (.aload_n 0, 1) := by decide +kernel
theorem dX6_rule_18 : decode cX6_rule 18 = .ok (.iload_n 1, 1) := by decide +kernel
theorem dX6_rule_19 : decode cX6_rule 19 = .ok (.putfield 57, 3) := by decide +kernel
theorem dX6_rule_22 : decode cX6_rule 22 = .ok (.iload_n 2, 1) := by decide +kernel
theorem dX6_rule_23 : decode cX6_rule 23 = .ok (.ireturn, 1) := by decide +kernel
theorem dX6_say_0 : decode cX6_say 0 = .ok (.iload_n 1, 1) := by decide +kernel
theorem dX6_say_1 : decode cX6_say 1 = .ok (.bipush 33, 2) := by decide +kernel
theorem dX6_say_3 : decode cX6_say 3 = .ok (.bipush 126, 2) := by decide +kernel
theorem dX6_say_5 : decode cX6_say 5 = .ok (.invokestatic 60, 3) := by decide +kernel
theorem dX6_say_8 : decode cX6_say 8 = .ok (.ifCond .ne 6, 3) := by decide +kernel
theorem dX6_say_11 : decode cX6_say 11 = .ok (.bipush (-2), 2) := by decide +kernel
theorem dX6_say_13 : decode cX6_say 13 = .ok (.ireturn, 1) := by decide +kernel
theorem dX6_say_14 : decode cX6_say 14 = .ok (.aload_n 0, 1) := by decide +kernel
theorem dX6_say_15 : decode cX6_say 15 = .ok (.getfield 74, 3) := by decide +kernel
theorem dX6_say_18 : decode cX6_say 18 = .ok (.bipush 48, 2) := by decide +kernel
theorem dX6_say_20 : decode cX6_say 20 = .ok (.if_icmp .ne 6, 3) := by decide +kernel
theorem dX6_say_23 : decode cX6_say 23 = .ok (.bipush (-4), 2) := by decide +kernel
theorem dX6_say_25 : decode cX6_say 25 = .ok (.ireturn, 1) := by decide +kernel
theorem dX6_say_26 : decode cX6_say 26 = .ok (.aload_n 0, 1) := by decide +kernel
theorem dX6_say_27 : decode cX6_say 27 = .ok (.getfield 20, 3) := by decide +kernel
theorem dX6_say_30 : decode cX6_say 30 = .ok (.aload_n 0, 1) := by decide +kernel
theorem dX6_say_31 : decode cX6_say 31 = .ok (.getfield 74, 3) := by decide +kernel
theorem dX6_say_34 : decode cX6_say 34 = .ok (.iload_n 1, 1) := by decide +kernel
theorem dX6_say_35 : decode cX6_say 35 = .ok (.iastore, 1) := by decide +kernel
theorem dX6_say_36 : decode cX6_say 36 = .ok (.aload_n 0, 1) := by decide +kernel
theorem dX6_say_37 : decode cX6_say 37 = .ok (.dup, 1) := by decide +kernel
theorem dX6_say_38 : decode cX6_say 38 = .ok (.getfield 74, 3) := by decide +kernel
theorem dX6_say_41 : decode cX6_say 41 = .ok (.iconst 1, 1) := by decide +kernel
theorem dX6_say_42 : decode cX6_say 42 = .ok (.iadd, 1) := by decide +kernel
theorem dX6_say_43 : decode cX6_say 43 = .ok (.putfield 74, 3) := by decide +kernel
theorem dX6_say_46 : decode cX6_say 46 = .ok (.aload_n 0, 1) := by decide +kernel
theorem dX6_say_47 : decode cX6_say 47 = .ok (.getfield 74, 3) := by decide +kernel
theorem dX6_say_50 : decode cX6_say 50 = .ok (.ireturn, 1) := by decide +kernel
theorem dX6_wipe_0 : decode cX6_wipe 0 = .ok (.aload_n 0, 1) := by decide +kernel
theorem dX6_wipe_1 : decode cX6_wipe 1 = .ok (.getfield 74, 3) := by decide +kernel
theorem dX6_wipe_4 : decode cX6_wipe 4 = .ok (.istore_n 1, 1) := by decide +kernel
theorem dX6_wipe_5 : decode cX6_wipe 5 = .ok (.aload_n 0, 1) := by decide +kernel
theorem dX6_wipe_6 : decode cX6_wipe 6 = .ok (.iconst 0, 1) := by decide +kernel
theorem dX6_wipe_7 : decode cX6_wipe 7 = .ok (.putfield 74, 3) := by decide +kernel
theorem dX6_wipe_10 : decode cX6_wipe 10 = .ok (.iload_n 1, 1) := by decide +kernel
theorem dX6_wipe_11 : decode cX6_wipe 11 = .ok (.ireturn, 1) := by decide +kernel
theorem dX6_faultOf_0 : decode cX6_faultOf 0 = .ok (.iconst 0, 1) := by decide +kernel
theorem dX6_faultOf_1 : decode cX6_faultOf 1 = .ok (.istore_n 1, 1) := by decide +kernel
theorem dX6_faultOf_2 : decode cX6_faultOf 2 = .ok (.iconst 0, 1) := by decide +kernel
theorem dX6_faultOf_3 : decode cX6_faultOf 3 = .ok (.istore_n 2, 1) := by decide +kernel
theorem dX6_faultOf_4 : decode cX6_faultOf 4 = .ok (.iload_n 2, 1) := by decide +kernel
theorem dX6_faultOf_5 : decode cX6_faultOf 5 = .ok (.aload_n 0, 1) := by decide +kernel
theorem dX6_faultOf_6 : decode cX6_faultOf 6 = .ok (.getfield 74, 3) := by decide +kernel
theorem dX6_faultOf_9 : decode cX6_faultOf 9 = .ok (.if_icmp .ge 83, 3) := by decide +kernel
theorem dX6_faultOf_12 : decode cX6_faultOf 12 = .ok (.aload_n 0, 1) := by decide +kernel
theorem dX6_faultOf_13 : decode cX6_faultOf 13 = .ok (.getfield 20, 3) := by decide +kernel
theorem dX6_faultOf_16 : decode cX6_faultOf 16 = .ok (.iload_n 2, 1) := by decide +kernel
theorem dX6_faultOf_17 : decode cX6_faultOf 17 = .ok (.iaload, 1) := by decide +kernel
theorem dX6_faultOf_18 : decode cX6_faultOf 18 = .ok (.istore_n 3, 1) := by decide +kernel
theorem dX6_faultOf_19 : decode cX6_faultOf 19 = .ok (.iload_n 1, 1) := by decide +kernel
theorem dX6_faultOf_20 : decode cX6_faultOf 20 = .ok (.iload_n 3, 1) := by decide +kernel
theorem dX6_faultOf_21 : decode cX6_faultOf 21 = .ok (.bipush 63, 2) := by decide +kernel
theorem dX6_faultOf_23 : decode cX6_faultOf 23 = .ok (.if_icmp .ne 7, 3) := by decide +kernel
theorem dX6_faultOf_26 : decode cX6_faultOf 26 = .ok (.iconst 1, 1) := by decide +kernel
theorem dX6_faultOf_27 : decode cX6_faultOf 27 = .ok (.goto 4, 3) := by decide +kernel
theorem dX6_faultOf_30 : decode cX6_faultOf 30 = .ok (.iconst 0, 1) := by decide +kernel
theorem dX6_faultOf_31 : decode cX6_faultOf 31 = .ok (.iadd, 1) := by decide +kernel
theorem dX6_faultOf_32 : decode cX6_faultOf 32 = .ok (.istore_n 1, 1) := by decide +kernel
theorem dX6_faultOf_33 : decode cX6_faultOf 33 = .ok (.iload_n 3, 1) := by decide +kernel
theorem dX6_faultOf_34 : decode cX6_faultOf 34 = .ok (.bipush 65, 2) := by decide +kernel
theorem dX6_faultOf_36 : decode cX6_faultOf 36 = .ok (.bipush 72, 2) := by decide +kernel
theorem dX6_faultOf_38 : decode cX6_faultOf 38 = .ok (.invokestatic 60, 3) := by decide +kernel
theorem dX6_faultOf_41 : decode cX6_faultOf 41 = .ok (.ifCond .ne 31, 3) := by decide +kernel
theorem dX6_faultOf_44 : decode cX6_faultOf 44 = .ok (.iload_n 3, 1) := by decide +kernel
theorem dX6_faultOf_45 : decode cX6_faultOf 45 = .ok (.bipush 97, 2) := by decide +kernel
theorem dX6_faultOf_47 : decode cX6_faultOf 47 = .ok (.bipush 104, 2) := by decide +kernel
theorem dX6_faultOf_49 : decode cX6_faultOf 49 = .ok (.invokestatic 60, 3) := by decide +kernel
theorem dX6_faultOf_52 : decode cX6_faultOf 52 = .ok (.ifCond .ne 20, 3) := by decide +kernel
theorem dX6_faultOf_55 : decode cX6_faultOf 55 = .ok (.iload_n 3, 1) := by decide +kernel
theorem dX6_faultOf_56 : decode cX6_faultOf 56 = .ok (.bipush 46, 2) := by decide +kernel
theorem dX6_faultOf_58 : decode cX6_faultOf 58 = .ok (.if_icmp .eq 14, 3) := by decide +kernel
theorem dX6_faultOf_61 : decode cX6_faultOf 61 = .ok (.iload_n 3, 1) := by decide +kernel
theorem dX6_faultOf_62 : decode cX6_faultOf 62 = .ok (.bipush 63, 2) := by decide +kernel
theorem dX6_faultOf_64 : decode cX6_faultOf 64 = .ok (.if_icmp .ne 12, 3) := by decide +kernel
theorem dX6_faultOf_67 : decode cX6_faultOf 67 = .ok (.iload_n 1, 1) := by decide +kernel
theorem dX6_faultOf_68 : decode cX6_faultOf 68 = .ok (.iconst 4, 1) := by decide +kernel
theorem dX6_faultOf_69 : decode cX6_faultOf 69 = .ok (.if_icmp .ge 7, 3) := by decide +kernel
theorem dX6_faultOf_72 : decode cX6_faultOf 72 = .ok (.iconst 1, 1) := by decide +kernel
theorem dX6_faultOf_73 : decode cX6_faultOf 73 = .ok (.goto 4, 3) := by decide +kernel
theorem dX6_faultOf_76 : decode cX6_faultOf 76 = .ok (.iconst 0, 1) := by decide +kernel
theorem dX6_faultOf_77 : decode cX6_faultOf 77 = .ok (.istore 4, 2) := by decide +kernel
theorem dX6_faultOf_79 : decode cX6_faultOf 79 = .ok (.iload 4, 2) := by decide +kernel
theorem dX6_faultOf_81 : decode cX6_faultOf 81 = .ok (.ifCond .ne 5, 3) := by decide +kernel
theorem dX6_faultOf_84 : decode cX6_faultOf 84 = .ok (.iload_n 2, 1) := by decide +kernel
theorem dX6_faultOf_85 : decode cX6_faultOf 85 = .ok (.ireturn, 1) := by decide +kernel
theorem dX6_faultOf_86 : decode cX6_faultOf 86 = .ok (.iinc 2 1, 3) := by decide +kernel
theorem dX6_faultOf_89 : decode cX6_faultOf 89 = .ok (.goto (-85), 3) := by decide +kernel
theorem dX6_faultOf_92 : decode cX6_faultOf 92 = .ok (.bipush (-6), 2) := by decide +kernel
theorem dX6_faultOf_94 : decode cX6_faultOf 94 = .ok (.ireturn, 1) := by decide +kernel
theorem dX6_fault_0 : decode cX6_fault 0 = .ok (.aload_n 0, 1) := by decide +kernel
theorem dX6_fault_1 : decode cX6_fault 1 = .ok (.invokevirtual 77, 3) := by decide +kernel
theorem dX6_fault_4 : decode cX6_fault 4 = .ok (.ireturn, 1) := by decide +kernel
theorem dX6_opens_0 : decode cX6_opens 0 = .ok (.iconst 0, 1) := by decide +kernel
theorem dX6_opens_1 : decode cX6_opens 1 = .ok (.istore_n 2, 1) := by decide +kernel
theorem dX6_opens_2 : decode cX6_opens 2 = .ok (.iconst 0, 1) := by decide +kernel
theorem dX6_opens_3 : decode cX6_opens 3 = .ok (.istore_n 3, 1) := by decide +kernel
theorem dX6_opens_4 : decode cX6_opens 4 = .ok (.iload_n 3, 1) := by decide +kernel
theorem dX6_opens_5 : decode cX6_opens 5 = .ok (.iload_n 1, 1) := by decide +kernel
theorem dX6_opens_6 : decode cX6_opens 6 = .ok (.if_icmp .ge 28, 3) := by decide +kernel
theorem dX6_opens_9 : decode cX6_opens 9 = .ok (.iload_n 2, 1) := by decide +kernel
theorem dX6_opens_10 : decode cX6_opens 10 = .ok (.aload_n 0, 1) := by decide +kernel
theorem dX6_opens_11 : decode cX6_opens 11 = .ok (.getfield 20, 3) := by decide +kernel
theorem dX6_opens_14 : decode cX6_opens 14 = .ok (.iload_n 3, 1) := by decide +kernel
theorem dX6_opens_15 : decode cX6_opens 15 = .ok (.iaload, 1) := by decide +kernel
theorem dX6_opens_16 : decode cX6_opens 16 = .ok (.bipush 63, 2) := by decide +kernel
theorem dX6_opens_18 : decode cX6_opens 18 = .ok (.if_icmp .ne 7, 3) := by decide +kernel
theorem dX6_opens_21 : decode cX6_opens 21 = .ok (.iconst 1, 1) := by decide +kernel
theorem dX6_opens_22 : decode cX6_opens 22 = .ok (.goto 4, 3) := by decide +kernel
theorem dX6_opens_25 : decode cX6_opens 25 = .ok (.iconst 0, 1) := by decide +kernel
theorem dX6_opens_26 : decode cX6_opens 26 = .ok (.iadd, 1) := by decide +kernel
theorem dX6_opens_27 : decode cX6_opens 27 = .ok (.istore_n 2, 1) := by decide +kernel
theorem dX6_opens_28 : decode cX6_opens 28 = .ok (.iinc 3 1, 3) := by decide +kernel
theorem dX6_opens_31 : decode cX6_opens 31 = .ok (.goto (-27), 3) := by decide +kernel
theorem dX6_opens_34 : decode cX6_opens 34 = .ok (.iload_n 2, 1) := by decide +kernel
theorem dX6_opens_35 : decode cX6_opens 35 = .ok (.ireturn, 1) := by decide +kernel
theorem dX6_begin_0 : decode cX6_begin 0 = .ok (.aload_n 0, 1) := by decide +kernel
theorem dX6_begin_1 : decode cX6_begin 1 = .ok (.aload_n 0, 1) := by decide +kernel
theorem dX6_begin_2 : decode cX6_begin 2 = .ok (.getfield 7, 3) := by decide +kernel
theorem dX6_begin_5 : decode cX6_begin 5 = .ok (.putfield 81, 3) := by decide +kernel
theorem dX6_begin_8 : decode cX6_begin 8 = .ok (.aload_n 0, 1) := by decide +kernel
theorem dX6_begin_9 : decode cX6_begin 9 = .ok (.iconst 0, 1) := by decide +kernel
theorem dX6_begin_10 : decode cX6_begin 10 = .ok (.putfield 84, 3) := by decide +kernel
theorem dX6_begin_13 : decode cX6_begin 13 = .ok (.iconst 0, 1) := by decide +kernel
theorem dX6_begin_14 : decode cX6_begin 14 = .ok (.istore_n 1, 1) := by decide +kernel
theorem dX6_begin_15 : decode cX6_begin 15 = .ok (.iload_n 1, 1) := by decide +kernel
theorem dX6_begin_16 : decode cX6_begin 16 = .ok (.bipush 8, 2) := by decide +kernel
theorem dX6_begin_18 : decode cX6_begin 18 = .ok (.if_icmp .ge 53, 3) := by decide +kernel
theorem dX6_begin_21 : decode cX6_begin 21 = .ok (.aload_n 0, 1) := by decide +kernel
theorem dX6_begin_22 : decode cX6_begin 22 = .ok (.getfield 23, 3) := by decide +kernel
theorem dX6_begin_25 : decode cX6_begin 25 = .ok (.iload_n 1, 1) := by decide +kernel
theorem dX6_begin_26 : decode cX6_begin 26 = .ok (.bipush (-6), 2) := by decide +kernel
theorem dX6_begin_28 : decode cX6_begin 28 = .ok (.iastore, 1) := by decide +kernel
theorem dX6_begin_29 : decode cX6_begin 29 = .ok (.aload_n 0, 1) := by decide +kernel
theorem dX6_begin_30 : decode cX6_begin 30 = .ok (.getfield 26, 3) := by decide +kernel
theorem dX6_begin_33 : decode cX6_begin 33 = .ok (.iload_n 1, 1) := by decide +kernel
theorem dX6_begin_34 : decode cX6_begin 34 = .ok (.iload_n 1, 1) := by decide +kernel
theorem dX6_begin_35 : decode cX6_begin 35 = .ok (.iastore, 1) := by decide +kernel
theorem dX6_begin_36 : decode cX6_begin 36 = .ok (.aload_n 0, 1) := by decide +kernel
theorem dX6_begin_37 : decode cX6_begin 37 = .ok (.getfield 32, 3) := by decide +kernel
theorem dX6_begin_40 : decode cX6_begin 40 = .ok (.iload_n 1, 1) := by decide +kernel
theorem dX6_begin_41 : decode cX6_begin 41 = .ok (.bipush (-6), 2) := by decide +kernel
theorem dX6_begin_43 : decode cX6_begin 43 = .ok (.iastore, 1) := by decide +kernel
theorem dX6_begin_44 : decode cX6_begin 44 = .ok (.aload_n 0, 1) := by decide +kernel
theorem dX6_begin_45 : decode cX6_begin 45 = .ok (.getfield 35, 3) := by decide +kernel
theorem dX6_begin_48 : decode cX6_begin 48 = .ok (.iload_n 1, 1) := by decide +kernel
theorem dX6_begin_49 : decode cX6_begin 49 = .ok (.iconst 0, 1) := by decide +kernel
theorem dX6_begin_50 : decode cX6_begin 50 = .ok (.iastore, 1) := by decide +kernel
theorem dX6_begin_51 : decode cX6_begin 51 = .ok (.aload_n 0, 1) := by decide +kernel
theorem dX6_begin_52 : decode cX6_begin 52 = .ok (.getfield 38, 3) := by decide +kernel
theorem dX6_begin_55 : decode cX6_begin 55 = .ok (.iload_n 1, 1) := by decide +kernel
theorem dX6_begin_56 : decode cX6_begin 56 = .ok (.iconst 0, 1) := by decide +kernel
theorem dX6_begin_57 : decode cX6_begin 57 = .ok (.iastore, 1) := by decide +kernel
theorem dX6_begin_58 : decode cX6_begin 58 = .ok (.aload_n 0, 1) := by decide +kernel
theorem dX6_begin_59 : decode cX6_begin 59 = .ok (.getfield 41, 3) := by decide +kernel
theorem dX6_begin_62 : decode cX6_begin 62 = .ok (.iload_n 1, 1) := by decide +kernel
theorem dX6_begin_63 : decode cX6_begin 63 = .ok (.iconst 0, 1) := by decide +kernel
theorem dX6_begin_64 : decode cX6_begin 64 = .ok (.iastore, 1) := by decide +kernel
theorem dX6_begin_65 : decode cX6_begin 65 = .ok (.iinc 1 1, 3) := by decide +kernel
theorem dX6_begin_68 : decode cX6_begin 68 = .ok (.goto (-53), 3) := by decide +kernel
theorem dX6_begin_71 : decode cX6_begin 71 = .ok (.return_, 1) := by decide +kernel
theorem dX6_bedOf_0 : decode cX6_bedOf 0 = .ok (.bipush (-6), 2) := by decide +kernel
theorem dX6_bedOf_2 : decode cX6_bedOf 2 = .ok (.istore_n 2, 1) := by decide +kernel
theorem dX6_bedOf_3 : decode cX6_bedOf 3 = .ok (.iconst 0, 1) := by decide +kernel
theorem dX6_bedOf_4 : decode cX6_bedOf 4 = .ok (.istore_n 3, 1) := by decide +kernel
theorem dX6_bedOf_5 : decode cX6_bedOf 5 = .ok (.iload_n 3, 1) := by decide +kernel
theorem dX6_bedOf_6 : decode cX6_bedOf 6 = .ok (.aload_n 0, 1) := by decide +kernel
theorem dX6_bedOf_7 : decode cX6_bedOf 7 = .ok (.getfield 7, 3) := by decide +kernel
theorem dX6_bedOf_10 : decode cX6_bedOf 10 = .ok (.if_icmp .ge 25, 3) := by decide +kernel
theorem dX6_bedOf_13 : decode cX6_bedOf 13 = .ok (.aload_n 0, 1) := by decide +kernel
theorem dX6_bedOf_14 : decode cX6_bedOf 14 = .ok (.getfield 23, 3) := by decide +kernel
theorem dX6_bedOf_17 : decode cX6_bedOf 17 = .ok (.iload_n 3, 1) := by decide +kernel
theorem dX6_bedOf_18 : decode cX6_bedOf 18 = .ok (.iaload, 1) := by decide +kernel
theorem dX6_bedOf_19 : decode cX6_bedOf 19 = .ok (.iload_n 1, 1) := by decide +kernel
theorem dX6_bedOf_20 : decode cX6_bedOf 20 = .ok (.if_icmp .ne 7, 3) := by decide +kernel
theorem dX6_bedOf_23 : decode cX6_bedOf 23 = .ok (.iload_n 3, 1) := by decide +kernel
theorem dX6_bedOf_24 : decode cX6_bedOf 24 = .ok (.goto 4, 3) := by decide +kernel
theorem dX6_bedOf_27 : decode cX6_bedOf 27 = .ok (.iload_n 2, 1) := by decide +kernel
theorem dX6_bedOf_28 : decode cX6_bedOf 28 = .ok (.istore_n 2, 1) := by decide +kernel
theorem dX6_bedOf_29 : decode cX6_bedOf 29 = .ok (.iinc 3 1, 3) := by decide +kernel
theorem dX6_bedOf_32 : decode cX6_bedOf 32 = .ok (.goto (-27), 3) := by decide +kernel
theorem dX6_bedOf_35 : decode cX6_bedOf 35 = .ok (.iload_n 2, 1) := by decide +kernel
theorem dX6_bedOf_36 : decode cX6_bedOf 36 = .ok (.ireturn, 1) := by decide +kernel
theorem dX6_isWaiting_0 : decode cX6_isWaiting 0 = .ok (.iconst 0, 1) := by decide +kernel
theorem dX6_isWaiting_1 : decode cX6_isWaiting 1 = .ok (.istore_n 2, 1) := by decide +kernel
theorem dX6_isWaiting_2 : decode cX6_isWaiting 2 = .ok (.iconst 0, 1) := by decide +kernel
theorem dX6_isWaiting_3 : decode cX6_isWaiting 3 = .ok (.istore_n 3, 1) := by decide +kernel
theorem dX6_isWaiting_4 : decode cX6_isWaiting 4 = .ok (.iload_n 3, 1) := by decide +kernel
theorem dX6_isWaiting_5 : decode cX6_isWaiting 5 = .ok (.aload_n 0, 1) := by decide +kernel
theorem dX6_isWaiting_6 : decode cX6_isWaiting 6 = .ok (.getfield 84, 3) := by decide +kernel
theorem dX6_isWaiting_9 : decode cX6_isWaiting 9 = .ok (.if_icmp .ge 29, 3) := by decide +kernel
theorem dX6_isWaiting_12 : decode cX6_isWaiting 12 = .ok (.iload_n 2, 1) := by decide +kernel
theorem dX6_isWaiting_13 : decode cX6_isWaiting 13 = .ok (.ifCond .ne 13, 3) := by decide +kernel
theorem dX6_isWaiting_16 : decode cX6_isWaiting 16 = .ok (.aload_n 0, 1) := by decide +kernel
theorem dX6_isWaiting_17 : decode cX6_isWaiting 17 = .ok (.getfield 29, 3) := by decide +kernel
theorem dX6_isWaiting_20 : decode cX6_isWaiting 20 = .ok (.iload_n 3, 1) := by decide +kernel
theorem dX6_isWaiting_21 : decode cX6_isWaiting 21 = .ok (.iaload, 1) := by decide +kernel
theorem dX6_isWaiting_22 : decode cX6_isWaiting 22 = .ok (.iload_n 1, 1) := by decide +kernel
theorem dX6_isWaiting_23 : decode cX6_isWaiting 23 = .ok (.if_icmp .ne 7, 3) := by decide +kernel
theorem dX6_isWaiting_26 : decode cX6_isWaiting 26 = .ok (.iconst 1, 1) := by decide +kernel
theorem dX6_isWaiting_27 : decode cX6_isWaiting 27 = .ok (.goto 4, 3) := by decide +kernel
theorem dX6_isWaiting_30 : decode cX6_isWaiting 30 = .ok (.iconst 0, 1) := by decide +kernel
theorem dX6_isWaiting_31 : decode cX6_isWaiting 31 = .ok (.istore_n 2, 1) := by decide +kernel
theorem dX6_isWaiting_32 : decode cX6_isWaiting 32 = .ok (.iinc 3 1, 3) := by decide +kernel
theorem dX6_isWaiting_35 : decode cX6_isWaiting 35 = .ok (.goto (-31), 3) := by decide +kernel
theorem dX6_isWaiting_38 : decode cX6_isWaiting 38 = .ok (.iload_n 2, 1) := by decide +kernel
theorem dX6_isWaiting_39 : decode cX6_isWaiting 39 = .ok (.ireturn, 1) := by decide +kernel
theorem dX6_isThere_0 : decode cX6_isThere 0 = .ok (.aload_n 0, 1) := by decide +kernel
theorem dX6_isThere_1 : decode cX6_isThere 1 = .ok (.iload_n 1, 1) := by decide +kernel
theorem dX6_isThere_2 : decode cX6_isThere 2 = .ok (.invokevirtual 87, 3) := by decide +kernel
theorem dX6_isThere_5 : decode cX6_isThere 5 = .ok (.ifCond .ge 11, 3) := by decide +kernel
theorem dX6_isThere_8 : decode cX6_isThere 8 = .ok (.aload_n 0, 1) := by decide +kernel
theorem dX6_isThere_9 : decode cX6_isThere 9 = .ok (.iload_n 1, 1) := by decide +kernel
theorem dX6_isThere_10 : decode cX6_isThere 10 = .ok (.invokevirtual 91, 3) := by decide +kernel
theorem dX6_isThere_13 : decode cX6_isThere 13 = .ok (.ifCond .eq 7, 3) := by decide +kernel
theorem dX6_isThere_16 : decode cX6_isThere 16 = .ok (.iconst 1, 1) := by decide +kernel
theorem dX6_isThere_17 : decode cX6_isThere 17 = .ok (.goto 4, 3) := by decide +kernel
theorem dX6_isThere_20 : decode cX6_isThere 20 = .ok (.iconst 0, 1) := by decide +kernel
theorem dX6_isThere_21 : decode cX6_isThere 21 = .ok (.ireturn, 1) := by decide +kernel
theorem dX6_take_0 : decode cX6_take 0 = .ok (.aload_n 0, 1) := by decide +kernel
theorem dX6_take_1 : decode cX6_take 1 = .ok (.getfield 23, 3) := by decide +kernel
theorem dX6_take_4 : decode cX6_take 4 = .ok (.iload_n 1, 1) := by decide +kernel
theorem dX6_take_5 : decode cX6_take 5 = .ok (.iload_n 2, 1) := by decide +kernel
theorem dX6_take_6 : decode cX6_take 6 = .ok (.iastore, 1) := by decide +kernel
theorem dX6_take_7 : decode cX6_take 7 = .ok (.aload_n 0, 1) := by decide +kernel
theorem dX6_take_8 : decode cX6_take 8 = .ok (.getfield 35, 3) := by decide +kernel
theorem dX6_take_11 : decode cX6_take 11 = .ok (.iload_n 1, 1) := by decide +kernel
theorem dX6_take_12 : decode cX6_take 12 = .ok (.dup2, 1) := by decide +kernel
theorem dX6_take_13 : decode cX6_take 13 = .ok (.iaload, 1) := by decide +kernel
theorem dX6_take_14 : decode cX6_take 14 = .ok (.iconst 1, 1) := by decide +kernel
theorem dX6_take_15 : decode cX6_take 15 = .ok (.iadd, 1) := by decide +kernel
theorem dX6_take_16 : decode cX6_take 16 = .ok (.iastore, 1) := by decide +kernel
theorem dX6_take_17 : decode cX6_take 17 = .ok (.aload_n 0, 1) := by decide +kernel
theorem dX6_take_18 : decode cX6_take 18 = .ok (.getfield 38, 3) := by decide +kernel
theorem dX6_take_21 : decode cX6_take 21 = .ok (.iload_n 1, 1) := by decide +kernel
theorem dX6_take_22 : decode cX6_take 22 = .ok (.dup2, 1) := by decide +kernel
theorem dX6_take_23 : decode cX6_take 23 = .ok (.iaload, 1) := by decide +kernel
theorem dX6_take_24 : decode cX6_take 24 = .ok (.aload_n 0, 1) := by decide +kernel
theorem dX6_take_25 : decode cX6_take 25 = .ok (.getfield 32, 3) := by decide +kernel
theorem dX6_take_28 : decode cX6_take 28 = .ok (.iload_n 1, 1) := by decide +kernel
theorem dX6_take_29 : decode cX6_take 29 = .ok (.iaload, 1) := by decide +kernel
theorem dX6_take_30 : decode cX6_take 30 = .ok (.iload_n 2, 1) := by decide +kernel
theorem dX6_take_31 : decode cX6_take 31 = .ok (.if_icmp .ne 7, 3) := by decide +kernel
theorem dX6_take_34 : decode cX6_take 34 = .ok (.iconst 0, 1) := by decide +kernel
theorem dX6_take_35 : decode cX6_take 35 = .ok (.goto 4, 3) := by decide +kernel
theorem dX6_take_38 : decode cX6_take 38 = .ok (.iconst 1, 1) := by decide +kernel
theorem dX6_take_39 : decode cX6_take 39 = .ok (.iadd, 1) := by decide +kernel
theorem dX6_take_40 : decode cX6_take 40 = .ok (.iastore, 1) := by decide +kernel
theorem dX6_take_41 : decode cX6_take 41 = .ok (.aload_n 0, 1) := by decide +kernel
theorem dX6_take_42 : decode cX6_take 42 = .ok (.getfield 32, 3) := by decide +kernel
theorem dX6_take_45 : decode cX6_take 45 = .ok (.iload_n 1, 1) := by decide +kernel
theorem dX6_take_46 : decode cX6_take 46 = .ok (.iload_n 2, 1) := by decide +kernel
theorem dX6_take_47 : decode cX6_take 47 = .ok (.iastore, 1) := by decide +kernel
theorem dX6_take_48 : decode cX6_take 48 = .ok (.return_, 1) := by decide +kernel
theorem dX6_worthTo_0 : decode cX6_worthTo 0 = .ok (.iload_n 1, 1) := by decide +kernel
theorem dX6_worthTo_1 : decode cX6_worthTo 1 = .ok (.bipush 8, 2) := by decide +kernel
theorem dX6_worthTo_3 : decode cX6_worthTo 3 = .ok (.if_icmp .ge 17, 3) := by decide +kernel
theorem dX6_worthTo_6 : decode cX6_worthTo 6 = .ok (.aload_n 0, 1) := by decide +kernel
theorem dX6_worthTo_7 : decode cX6_worthTo 7 = .ok (.getfield 13, 3) := by decide +kernel
theorem dX6_worthTo_10 : decode cX6_worthTo 10 = .ok (.bipush 8, 2) := by decide +kernel
theorem dX6_worthTo_12 : decode cX6_worthTo 12 = .ok (.iload_n 1, 1) := by decide +kernel
theorem dX6_worthTo_13 : decode cX6_worthTo 13 = .ok (.imul, 1) := by decide +kernel
theorem dX6_worthTo_14 : decode cX6_worthTo 14 = .ok (.iload_n 2, 1) := by decide +kernel
theorem dX6_worthTo_15 : decode cX6_worthTo 15 = .ok (.iadd, 1) := by decide +kernel
theorem dX6_worthTo_16 : decode cX6_worthTo 16 = .ok (.iaload, 1) := by decide +kernel
theorem dX6_worthTo_17 : decode cX6_worthTo 17 = .ok (.goto 4, 3) := by decide +kernel
theorem dX6_worthTo_20 : decode cX6_worthTo 20 = .ok (.iconst 0, 1) := by decide +kernel
theorem dX6_worthTo_21 : decode cX6_worthTo 21 = .ok (.ireturn, 1) := by decide +kernel
theorem dX6_chosen_0 : decode cX6_chosen 0 = .ok (.aload_n 0, 1) := by decide +kernel
theorem dX6_chosen_1 : decode cX6_chosen 1 = .ok (.getfield 57, 3) := by decide +kernel
theorem dX6_chosen_4 : decode cX6_chosen 4 = .ok (.ifCond .ne 12, 3) := by decide +kernel
theorem dX6_chosen_7 : decode cX6_chosen 7 = .ok (.aload_n 0, 1) := by decide +kernel
theorem dX6_chosen_8 : decode cX6_chosen 8 = .ok (.getfield 81, 3) := by decide +kernel
theorem dX6_chosen_11 : decode cX6_chosen 11 = .ok (.iconst 1, 1) := by decide +kernel
theorem dX6_chosen_12 : decode cX6_chosen 12 = .ok (.isub, 1) := by decide +kernel
theorem dX6_chosen_13 : decode cX6_chosen 13 = .ok (.goto 4, 3) := by decide +kernel
theorem dX6_chosen_16 : decode cX6_chosen 16 = .ok (.iconst 0, 1) := by decide +kernel
theorem dX6_chosen_17 : decode cX6_chosen 17 = .ok (.istore_n 2, 1) := by decide +kernel
theorem dX6_chosen_18 : decode cX6_chosen 18 = .ok (.iconst 1, 1) := by decide +kernel
theorem dX6_chosen_19 : decode cX6_chosen 19 = .ok (.istore_n 3, 1) := by decide +kernel
theorem dX6_chosen_20 : decode cX6_chosen 20 = .ok (.iload_n 3, 1) := by decide +kernel
theorem dX6_chosen_21 : decode cX6_chosen 21 = .ok (.aload_n 0, 1) := by decide +kernel
theorem dX6_chosen_22 : decode cX6_chosen 22 = .ok (.getfield 81, 3) := by decide +kernel
theorem dX6_chosen_25 : decode cX6_chosen 25 = .ok (.if_icmp .ge 91, 3) := by decide +kernel
theorem dX6_chosen_28 : decode cX6_chosen 28 = .ok (.aload_n 0, 1) := by decide +kernel
theorem dX6_chosen_29 : decode cX6_chosen 29 = .ok (.getfield 57, 3) := by decide +kernel
theorem dX6_chosen_32 : decode cX6_chosen 32 = .ok (.iconst 1, 1) := by decide +kernel
theorem dX6_chosen_33 : decode cX6_chosen 33 = .ok (.if_icmp .le 83, 3) := by decide +kernel
theorem dX6_chosen_36 : decode cX6_chosen 36 = .ok (.aload_n 0, 1) := by decide +kernel
theorem dX6_chosen_37 : decode cX6_chosen 37 = .ok (.getfield 57, 3) := by decide +kernel
theorem dX6_chosen_40 : decode cX6_chosen 40 = .ok (.iconst 2, 1) := by decide +kernel
theorem dX6_chosen_41 : decode cX6_chosen 41 = .ok (.if_icmp .ne 26, 3) := by decide +kernel
theorem dX6_chosen_44 : decode cX6_chosen 44 = .ok (.aload_n 0, 1) := by decide +kernel
theorem dX6_chosen_45 : decode cX6_chosen 45 = .ok (.getfield 26, 3) := by decide +kernel
theorem dX6_chosen_48 : decode cX6_chosen 48 = .ok (.iload_n 3, 1) := by decide +kernel
theorem dX6_chosen_49 : decode cX6_chosen 49 = .ok (.iaload, 1) := by decide +kernel
theorem dX6_chosen_50 : decode cX6_chosen 50 = .ok (.aload_n 0, 1) := by decide +kernel
theorem dX6_chosen_51 : decode cX6_chosen 51 = .ok (.getfield 26, 3) := by decide +kernel
theorem dX6_chosen_54 : decode cX6_chosen 54 = .ok (.iload_n 2, 1) := by decide +kernel
theorem dX6_chosen_55 : decode cX6_chosen 55 = .ok (.iaload, 1) := by decide +kernel
theorem dX6_chosen_56 : decode cX6_chosen 56 = .ok (.if_icmp .ge 7, 3) := by decide +kernel
theorem dX6_chosen_59 : decode cX6_chosen 59 = .ok (.iconst 1, 1) := by decide +kernel
theorem dX6_chosen_60 : decode cX6_chosen 60 = .ok (.goto 37, 3) := by decide +kernel
theorem dX6_chosen_63 : decode cX6_chosen 63 = .ok (.iconst 0, 1) := by decide +kernel
theorem dX6_chosen_64 : decode cX6_chosen 64 = .ok (.goto 33, 3) := by decide +kernel
theorem dX6_chosen_67 : decode cX6_chosen 67 = .ok (.aload_n 0, 1) := by decide +kernel
theorem dX6_chosen_68 : decode cX6_chosen 68 = .ok (.iload_n 1, 1) := by decide +kernel
theorem dX6_chosen_69 : decode cX6_chosen 69 = .ok (.aload_n 0, 1) := by decide +kernel
theorem dX6_chosen_70 : decode cX6_chosen 70 = .ok (.getfield 26, 3) := by decide +kernel
theorem dX6_chosen_73 : decode cX6_chosen 73 = .ok (.iload_n 3, 1) := by decide +kernel
theorem dX6_chosen_74 : decode cX6_chosen 74 = .ok (.iaload, 1) := by decide +kernel
theorem dX6_chosen_75 : decode cX6_chosen 75 = .ok (.invokevirtual 94, 3) := by decide +kernel
theorem dX6_chosen_78 : decode cX6_chosen 78 = .ok (.aload_n 0, 1) := by decide +kernel
theorem dX6_chosen_79 : decode cX6_chosen 79 = .ok (.iload_n 1, 1) := by decide +kernel
theorem dX6_chosen_80 : decode cX6_chosen 80 = .ok (.aload_n 0, 1) := by decide +kernel
theorem dX6_chosen_81 : decode cX6_chosen 81 = .ok (.getfield 26, 3) := by decide +kernel
theorem dX6_chosen_84 : decode cX6_chosen 84 = .ok (.iload_n 2, 1) := by decide +kernel
theorem dX6_chosen_85 : decode cX6_chosen 85 = .ok (.iaload, 1) := by decide +kernel
theorem dX6_chosen_86 : decode cX6_chosen 86 = .ok (.invokevirtual 94, 3) := by decide +kernel
theorem dX6_chosen_89 : decode cX6_chosen 89 = .ok (.if_icmp .lt 7, 3) := by decide +kernel
theorem dX6_chosen_92 : decode cX6_chosen 92 = .ok (.iconst 1, 1) := by decide +kernel
theorem dX6_chosen_93 : decode cX6_chosen 93 = .ok (.goto 4, 3) := by decide +kernel
theorem dX6_chosen_96 : decode cX6_chosen 96 = .ok (.iconst 0, 1) := by decide +kernel
theorem dX6_chosen_97 : decode cX6_chosen 97 = .ok (.istore 4, 2) := by decide +kernel
theorem dX6_chosen_99 : decode cX6_chosen 99 = .ok (.iload 4, 2) := by decide +kernel
theorem dX6_chosen_101 : decode cX6_chosen 101 = .ok (.ifCond .eq 7, 3) := by decide +kernel
theorem dX6_chosen_104 : decode cX6_chosen 104 = .ok (.iload_n 3, 1) := by decide +kernel
theorem dX6_chosen_105 : decode cX6_chosen 105 = .ok (.goto 4, 3) := by decide +kernel
theorem dX6_chosen_108 : decode cX6_chosen 108 = .ok (.iload_n 2, 1) := by decide +kernel
theorem dX6_chosen_109 : decode cX6_chosen 109 = .ok (.istore_n 2, 1) := by decide +kernel
theorem dX6_chosen_110 : decode cX6_chosen 110 = .ok (.iinc 3 1, 3) := by decide +kernel
theorem dX6_chosen_113 : decode cX6_chosen 113 = .ok (.goto (-93), 3) := by decide +kernel
theorem dX6_chosen_116 : decode cX6_chosen 116 = .ok (.iload_n 2, 1) := by decide +kernel
theorem dX6_chosen_117 : decode cX6_chosen 117 = .ok (.ireturn, 1) := by decide +kernel
theorem dX6_comeIn_0 : decode cX6_comeIn 0 = .ok (.aload_n 0, 1) := by decide +kernel
theorem dX6_comeIn_1 : decode cX6_comeIn 1 = .ok (.getfield 81, 3) := by decide +kernel
theorem dX6_comeIn_4 : decode cX6_comeIn 4 = .ok (.ifCond .ne 24, 3) := by decide +kernel
theorem dX6_comeIn_7 : decode cX6_comeIn 7 = .ok (.aload_n 0, 1) := by decide +kernel
theorem dX6_comeIn_8 : decode cX6_comeIn 8 = .ok (.getfield 29, 3) := by decide +kernel
theorem dX6_comeIn_11 : decode cX6_comeIn 11 = .ok (.aload_n 0, 1) := by decide +kernel
theorem dX6_comeIn_12 : decode cX6_comeIn 12 = .ok (.getfield 84, 3) := by decide +kernel
theorem dX6_comeIn_15 : decode cX6_comeIn 15 = .ok (.iload_n 1, 1) := by decide +kernel
theorem dX6_comeIn_16 : decode cX6_comeIn 16 = .ok (.iastore, 1) := by decide +kernel
theorem dX6_comeIn_17 : decode cX6_comeIn 17 = .ok (.aload_n 0, 1) := by decide +kernel
theorem dX6_comeIn_18 : decode cX6_comeIn 18 = .ok (.dup, 1) := by decide +kernel
theorem dX6_comeIn_19 : decode cX6_comeIn 19 = .ok (.getfield 84, 3) := by decide +kernel
theorem dX6_comeIn_22 : decode cX6_comeIn 22 = .ok (.iconst 1, 1) := by decide +kernel
theorem dX6_comeIn_23 : decode cX6_comeIn 23 = .ok (.iadd, 1) := by decide +kernel
theorem dX6_comeIn_24 : decode cX6_comeIn 24 = .ok (.putfield 84, 3) := by decide +kernel
theorem dX6_comeIn_27 : decode cX6_comeIn 27 = .ok (.return_, 1) := by decide +kernel
theorem dX6_comeIn_28 : decode cX6_comeIn 28 = .ok (.aload_n 0, 1) := by decide +kernel
theorem dX6_comeIn_29 : decode cX6_comeIn 29 = .ok (.iload_n 1, 1) := by decide +kernel
theorem dX6_comeIn_30 : decode cX6_comeIn 30 = .ok (.invokevirtual 98, 3) := by decide +kernel
theorem dX6_comeIn_33 : decode cX6_comeIn 33 = .ok (.istore_n 2, 1) := by decide +kernel
theorem dX6_comeIn_34 : decode cX6_comeIn 34 = .ok (.aload_n 0, 1) := by decide +kernel
theorem dX6_comeIn_35 : decode cX6_comeIn 35 = .ok (.getfield 26, 3) := by decide +kernel
theorem dX6_comeIn_38 : decode cX6_comeIn 38 = .ok (.iload_n 2, 1) := by decide +kernel
theorem dX6_comeIn_39 : decode cX6_comeIn 39 = .ok (.iaload, 1) := by decide +kernel
theorem dX6_comeIn_40 : decode cX6_comeIn 40 = .ok (.istore_n 3, 1) := by decide +kernel
theorem dX6_comeIn_41 : decode cX6_comeIn 41 = .ok (.aload_n 0, 1) := by decide +kernel
theorem dX6_comeIn_42 : decode cX6_comeIn 42 = .ok (.dup, 1) := by decide +kernel
theorem dX6_comeIn_43 : decode cX6_comeIn 43 = .ok (.getfield 81, 3) := by decide +kernel
theorem dX6_comeIn_46 : decode cX6_comeIn 46 = .ok (.iconst 1, 1) := by decide +kernel
theorem dX6_comeIn_47 : decode cX6_comeIn 47 = .ok (.isub, 1) := by decide +kernel
theorem dX6_comeIn_48 : decode cX6_comeIn 48 = .ok (.putfield 81, 3) := by decide +kernel
theorem dX6_comeIn_51 : decode cX6_comeIn 51 = .ok (.iload_n 2, 1) := by decide +kernel
theorem dX6_comeIn_52 : decode cX6_comeIn 52 = .ok (.istore 4, 2) := by decide +kernel
theorem dX6_comeIn_54 : decode cX6_comeIn 54 = .ok (.iload 4, 2) := by decide +kernel
theorem dX6_comeIn_56 : decode cX6_comeIn 56 = .ok (.aload_n 0, 1) := by decide +kernel
theorem dX6_comeIn_57 : decode cX6_comeIn 57 = .ok (.getfield 81, 3) := by decide +kernel
theorem dX6_comeIn_60 : decode cX6_comeIn 60 = .ok (.if_icmp .ge 25, 3) := by decide +kernel
theorem dX6_comeIn_63 : decode cX6_comeIn 63 = .ok (.aload_n 0, 1) := by decide +kernel
theorem dX6_comeIn_64 : decode cX6_comeIn 64 = .ok (.getfield 26, 3) := by decide +kernel
theorem dX6_comeIn_67 : decode cX6_comeIn 67 = .ok (.iload 4, 2) := by decide +kernel
theorem dX6_comeIn_69 : decode cX6_comeIn 69 = .ok (.aload_n 0, 1) := by decide +kernel
theorem dX6_comeIn_70 : decode cX6_comeIn 70 = .ok (.getfield 26, 3) := by decide +kernel
theorem dX6_comeIn_73 : decode cX6_comeIn 73 = .ok (.iload 4, 2) := by decide +kernel
theorem dX6_comeIn_75 : decode cX6_comeIn 75 = .ok (.iconst 1, 1) := by decide +kernel
theorem dX6_comeIn_76 : decode cX6_comeIn 76 = .ok (.iadd, 1) := by decide +kernel
theorem dX6_comeIn_77 : decode cX6_comeIn 77 = .ok (.iaload, 1) := by decide +kernel
theorem dX6_comeIn_78 : decode cX6_comeIn 78 = .ok (.iastore, 1) := by decide +kernel
theorem dX6_comeIn_79 : decode cX6_comeIn 79 = .ok (.iinc 4 1, 3) := by decide +kernel
theorem dX6_comeIn_82 : decode cX6_comeIn 82 = .ok (.goto (-28), 3) := by decide +kernel
theorem dX6_comeIn_85 : decode cX6_comeIn 85 = .ok (.aload_n 0, 1) := by decide +kernel
theorem dX6_comeIn_86 : decode cX6_comeIn 86 = .ok (.iload_n 3, 1) := by decide +kernel
theorem dX6_comeIn_87 : decode cX6_comeIn 87 = .ok (.iload_n 1, 1) := by decide +kernel
theorem dX6_comeIn_88 : decode cX6_comeIn 88 = .ok (.invokevirtual 101, 3) := by decide +kernel
theorem dX6_comeIn_91 : decode cX6_comeIn 91 = .ok (.return_, 1) := by decide +kernel
theorem dX6_outOfYard_0 : decode cX6_outOfYard 0 = .ok (.aload_n 0, 1) := by decide +kernel
theorem dX6_outOfYard_1 : decode cX6_outOfYard 1 = .ok (.dup, 1) := by decide +kernel
theorem dX6_outOfYard_2 : decode cX6_outOfYard 2 = .ok (.getfield 84, 3) := by decide +kernel
theorem dX6_outOfYard_5 : decode cX6_outOfYard 5 = .ok (.iconst 1, 1) := by decide +kernel
theorem dX6_outOfYard_6 : decode cX6_outOfYard 6 = .ok (.isub, 1) := by decide +kernel
theorem dX6_outOfYard_7 : decode cX6_outOfYard 7 = .ok (.putfield 84, 3) := by decide +kernel
theorem dX6_outOfYard_10 : decode cX6_outOfYard 10 = .ok (.iload_n 1, 1) := by decide +kernel
theorem dX6_outOfYard_11 : decode cX6_outOfYard 11 = .ok (.istore_n 2, 1) := by decide +kernel
theorem dX6_outOfYard_12 : decode cX6_outOfYard 12 = .ok (.iload_n 2, 1) := by decide +kernel
theorem dX6_outOfYard_13 : decode cX6_outOfYard 13 = .ok (.aload_n 0, 1) := by decide +kernel
theorem dX6_outOfYard_14 : decode cX6_outOfYard 14 = .ok (.getfield 84, 3) := by decide +kernel
theorem dX6_outOfYard_17 : decode cX6_outOfYard 17 = .ok (.if_icmp .ge 23, 3) := by decide +kernel
theorem dX6_outOfYard_20 : decode cX6_outOfYard 20 = .ok (.aload_n 0, 1) := by decide +kernel
theorem dX6_outOfYard_21 : decode cX6_outOfYard 21 = .ok (.getfield 29, 3) := by decide +kernel
theorem dX6_outOfYard_24 : decode cX6_outOfYard 24 = .ok (.iload_n 2, 1) := by decide +kernel
theorem dX6_outOfYard_25 : decode cX6_outOfYard 25 = .ok (.aload_n 0, 1) := by decide +kernel
theorem dX6_outOfYard_26 : decode cX6_outOfYard 26 = .ok (.getfield 29, 3) := by decide +kernel
theorem dX6_outOfYard_29 : decode cX6_outOfYard 29 = .ok (.iload_n 2, 1) := by decide +kernel
theorem dX6_outOfYard_30 : decode cX6_outOfYard 30 = .ok (.iconst 1, 1) := by decide +kernel
theorem dX6_outOfYard_31 : decode cX6_outOfYard 31 = .ok (.iadd, 1) := by decide +kernel
theorem dX6_outOfYard_32 : decode cX6_outOfYard 32 = .ok (.iaload, 1) := by decide +kernel
theorem dX6_outOfYard_33 : decode cX6_outOfYard 33 = .ok (.iastore, 1) := by decide +kernel
theorem dX6_outOfYard_34 : decode cX6_outOfYard 34 = .ok (.iinc 2 1, 3) := by decide +kernel
theorem dX6_outOfYard_37 : decode cX6_outOfYard 37 = .ok (.goto (-25), 3) := by decide +kernel
theorem dX6_outOfYard_40 : decode cX6_outOfYard 40 = .ok (.return_, 1) := by decide +kernel
theorem dX6_goOut_0 : decode cX6_goOut 0 = .ok (.aload_n 0, 1) := by decide +kernel
theorem dX6_goOut_1 : decode cX6_goOut 1 = .ok (.iload_n 1, 1) := by decide +kernel
theorem dX6_goOut_2 : decode cX6_goOut 2 = .ok (.invokevirtual 87, 3) := by decide +kernel
theorem dX6_goOut_5 : decode cX6_goOut 5 = .ok (.istore_n 2, 1) := by decide +kernel
theorem dX6_goOut_6 : decode cX6_goOut 6 = .ok (.iload_n 2, 1) := by decide +kernel
theorem dX6_goOut_7 : decode cX6_goOut 7 = .ok (.ifCond .ge 29, 3) := by decide +kernel
theorem dX6_goOut_10 : decode cX6_goOut 10 = .ok (.iconst 0, 1) := by decide +kernel
theorem dX6_goOut_11 : decode cX6_goOut 11 = .ok (.istore_n 3, 1) := by decide +kernel
theorem dX6_goOut_12 : decode cX6_goOut 12 = .ok (.aload_n 0, 1) := by decide +kernel
theorem dX6_goOut_13 : decode cX6_goOut 13 = .ok (.getfield 29, 3) := by decide +kernel
theorem dX6_goOut_16 : decode cX6_goOut 16 = .ok (.iload_n 3, 1) := by decide +kernel
theorem dX6_goOut_17 : decode cX6_goOut 17 = .ok (.iaload, 1) := by decide +kernel
theorem dX6_goOut_18 : decode cX6_goOut 18 = .ok (.iload_n 1, 1) := by decide +kernel
theorem dX6_goOut_19 : decode cX6_goOut 19 = .ok (.if_icmp .eq 9, 3) := by decide +kernel
theorem dX6_goOut_22 : decode cX6_goOut 22 = .ok (.iinc 3 1, 3) := by decide +kernel
theorem dX6_goOut_25 : decode cX6_goOut 25 = .ok (.goto (-13), 3) := by decide +kernel
theorem dX6_goOut_28 : decode cX6_goOut 28 = .ok (.aload_n 0, 1) := by decide +kernel
theorem dX6_goOut_29 : decode cX6_goOut 29 = .ok (.iload_n 3, 1) := by decide +kernel
theorem dX6_goOut_30 : decode cX6_goOut 30 = .ok (.invokevirtual 105, 3) := by decide +kernel
theorem dX6_goOut_33 : decode cX6_goOut 33 = .ok (.goto 59, 3) := by decide +kernel
theorem dX6_goOut_36 : decode cX6_goOut 36 = .ok (.aload_n 0, 1) := by decide +kernel
theorem dX6_goOut_37 : decode cX6_goOut 37 = .ok (.getfield 84, 3) := by decide +kernel
theorem dX6_goOut_40 : decode cX6_goOut 40 = .ok (.ifCond .le 24, 3) := by decide +kernel
theorem dX6_goOut_43 : decode cX6_goOut 43 = .ok (.aload_n 0, 1) := by decide +kernel
theorem dX6_goOut_44 : decode cX6_goOut 44 = .ok (.getfield 29, 3) := by decide +kernel
theorem dX6_goOut_47 : decode cX6_goOut 47 = .ok (.iconst 0, 1) := by decide +kernel
theorem dX6_goOut_48 : decode cX6_goOut 48 = .ok (.iaload, 1) := by decide +kernel
theorem dX6_goOut_49 : decode cX6_goOut 49 = .ok (.istore_n 3, 1) := by decide +kernel
theorem dX6_goOut_50 : decode cX6_goOut 50 = .ok (.aload_n 0, 1) := by decide +kernel
theorem dX6_goOut_51 : decode cX6_goOut 51 = .ok (.iconst 0, 1) := by decide +kernel
theorem dX6_goOut_52 : decode cX6_goOut 52 = .ok (.invokevirtual 105, 3) := by decide +kernel
theorem dX6_goOut_55 : decode cX6_goOut 55 = .ok (.aload_n 0, 1) := by decide +kernel
theorem dX6_goOut_56 : decode cX6_goOut 56 = .ok (.iload_n 2, 1) := by decide +kernel
theorem dX6_goOut_57 : decode cX6_goOut 57 = .ok (.iload_n 3, 1) := by decide +kernel
theorem dX6_goOut_58 : decode cX6_goOut 58 = .ok (.invokevirtual 101, 3) := by decide +kernel
theorem dX6_goOut_61 : decode cX6_goOut 61 = .ok (.goto 31, 3) := by decide +kernel
theorem dX6_goOut_64 : decode cX6_goOut 64 = .ok (.aload_n 0, 1) := by decide +kernel
theorem dX6_goOut_65 : decode cX6_goOut 65 = .ok (.getfield 23, 3) := by decide +kernel
theorem dX6_goOut_68 : decode cX6_goOut 68 = .ok (.iload_n 2, 1) := by decide +kernel
theorem dX6_goOut_69 : decode cX6_goOut 69 = .ok (.bipush (-6), 2) := by decide +kernel
theorem dX6_goOut_71 : decode cX6_goOut 71 = .ok (.iastore, 1) := by decide +kernel
theorem dX6_goOut_72 : decode cX6_goOut 72 = .ok (.aload_n 0, 1) := by decide +kernel
theorem dX6_goOut_73 : decode cX6_goOut 73 = .ok (.getfield 26, 3) := by decide +kernel
theorem dX6_goOut_76 : decode cX6_goOut 76 = .ok (.aload_n 0, 1) := by decide +kernel
theorem dX6_goOut_77 : decode cX6_goOut 77 = .ok (.getfield 81, 3) := by decide +kernel
theorem dX6_goOut_80 : decode cX6_goOut 80 = .ok (.iload_n 2, 1) := by decide +kernel
theorem dX6_goOut_81 : decode cX6_goOut 81 = .ok (.iastore, 1) := by decide +kernel
theorem dX6_goOut_82 : decode cX6_goOut 82 = .ok (.aload_n 0, 1) := by decide +kernel
theorem dX6_goOut_83 : decode cX6_goOut 83 = .ok (.dup, 1) := by decide +kernel
theorem dX6_goOut_84 : decode cX6_goOut 84 = .ok (.getfield 81, 3) := by decide +kernel
theorem dX6_goOut_87 : decode cX6_goOut 87 = .ok (.iconst 1, 1) := by decide +kernel
theorem dX6_goOut_88 : decode cX6_goOut 88 = .ok (.iadd, 1) := by decide +kernel
theorem dX6_goOut_89 : decode cX6_goOut 89 = .ok (.putfield 81, 3) := by decide +kernel
theorem dX6_goOut_92 : decode cX6_goOut 92 = .ok (.return_, 1) := by decide +kernel
theorem dX6_pass_0 : decode cX6_pass 0 = .ok (.iconst 0, 1) := by decide +kernel
theorem dX6_pass_1 : decode cX6_pass 1 = .ok (.istore_n 1, 1) := by decide +kernel
theorem dX6_pass_2 : decode cX6_pass 2 = .ok (.iload_n 1, 1) := by decide +kernel
theorem dX6_pass_3 : decode cX6_pass 3 = .ok (.aload_n 0, 1) := by decide +kernel
theorem dX6_pass_4 : decode cX6_pass 4 = .ok (.getfield 7, 3) := by decide +kernel
theorem dX6_pass_7 : decode cX6_pass 7 = .ok (.if_icmp .ge 128, 3) := by decide +kernel
theorem dX6_pass_10 : decode cX6_pass 10 = .ok (.aload_n 0, 1) := by decide +kernel
theorem dX6_pass_11 : decode cX6_pass 11 = .ok (.getfield 23, 3) := by decide +kernel
theorem dX6_pass_14 : decode cX6_pass 14 = .ok (.iload_n 1, 1) := by decide +kernel
theorem dX6_pass_15 : decode cX6_pass 15 = .ok (.iaload, 1) := by decide +kernel
theorem dX6_pass_16 : decode cX6_pass 16 = .ok (.ifCond .lt 113, 3) := by decide +kernel
theorem dX6_pass_19 : decode cX6_pass 19 = .ok (.aload_n 0, 1) := by decide +kernel
theorem dX6_pass_20 : decode cX6_pass 20 = .ok (.getfield 41, 3) := by decide +kernel
theorem dX6_pass_23 : decode cX6_pass 23 = .ok (.iload_n 1, 1) := by decide +kernel
theorem dX6_pass_24 : decode cX6_pass 24 = .ok (.dup2, 1) := by decide +kernel
theorem dX6_pass_25 : decode cX6_pass 25 = .ok (.iaload, 1) := by decide +kernel
theorem dX6_pass_26 : decode cX6_pass 26 = .ok (.iconst 1, 1) := by decide +kernel
theorem dX6_pass_27 : decode cX6_pass 27 = .ok (.iadd, 1) := by decide +kernel
theorem dX6_pass_28 : decode cX6_pass 28 = .ok (.iastore, 1) := by decide +kernel
theorem dX6_pass_29 : decode cX6_pass 29 = .ok (.aload_n 0, 1) := by decide +kernel
theorem dX6_pass_30 : decode cX6_pass 30 = .ok (.getfield 109, 3) := by decide +kernel
theorem dX6_pass_33 : decode cX6_pass 33 = .ok (.iload_n 1, 1) := by decide +kernel
theorem dX6_pass_34 : decode cX6_pass 34 = .ok (.invokestatic 112, 3) := by decide +kernel
theorem dX6_pass_37 : decode cX6_pass 37 = .ok (.ifCond .ne 30, 3) := by decide +kernel
theorem dX6_pass_40 : decode cX6_pass 40 = .ok (.aload_n 0, 1) := by decide +kernel
theorem dX6_pass_41 : decode cX6_pass 41 = .ok (.getfield 23, 3) := by decide +kernel
theorem dX6_pass_44 : decode cX6_pass 44 = .ok (.iload_n 1, 1) := by decide +kernel
theorem dX6_pass_45 : decode cX6_pass 45 = .ok (.iaload, 1) := by decide +kernel
theorem dX6_pass_46 : decode cX6_pass 46 = .ok (.bipush 8, 2) := by decide +kernel
theorem dX6_pass_48 : decode cX6_pass 48 = .ok (.if_icmp .ge 23, 3) := by decide +kernel
theorem dX6_pass_51 : decode cX6_pass 51 = .ok (.aload_n 0, 1) := by decide +kernel
theorem dX6_pass_52 : decode cX6_pass 52 = .ok (.getfield 116, 3) := by decide +kernel
theorem dX6_pass_55 : decode cX6_pass 55 = .ok (.aload_n 0, 1) := by decide +kernel
theorem dX6_pass_56 : decode cX6_pass 56 = .ok (.getfield 23, 3) := by decide +kernel
theorem dX6_pass_59 : decode cX6_pass 59 = .ok (.iload_n 1, 1) := by decide +kernel
theorem dX6_pass_60 : decode cX6_pass 60 = .ok (.iaload, 1) := by decide +kernel
theorem dX6_pass_61 : decode cX6_pass 61 = .ok (.invokestatic 112, 3) := by decide +kernel
theorem dX6_pass_64 : decode cX6_pass 64 = .ok (.ifCond .eq 7, 3) := by decide +kernel
theorem dX6_pass_67 : decode cX6_pass 67 = .ok (.iconst 1, 1) := by decide +kernel
theorem dX6_pass_68 : decode cX6_pass 68 = .ok (.goto 4, 3) := by decide +kernel
theorem dX6_pass_71 : decode cX6_pass 71 = .ok (.iconst 0, 1) := by decide +kernel
theorem dX6_pass_72 : decode cX6_pass 72 = .ok (.istore_n 2, 1) := by decide +kernel
theorem dX6_pass_73 : decode cX6_pass 73 = .ok (.aload_n 0, 1) := by decide +kernel
theorem dX6_pass_74 : decode cX6_pass 74 = .ok (.dup, 1) := by decide +kernel
theorem dX6_pass_75 : decode cX6_pass 75 = .ok (.getfield 109, 3) := by decide +kernel
theorem dX6_pass_78 : decode cX6_pass 78 = .ok (.iload_n 2, 1) := by decide +kernel
theorem dX6_pass_79 : decode cX6_pass 79 = .ok (.ifCond .eq 9, 3) := by decide +kernel
theorem dX6_pass_82 : decode cX6_pass 82 = .ok (.iconst 1, 1) := by decide +kernel
theorem dX6_pass_83 : decode cX6_pass 83 = .ok (.iload_n 1, 1) := by decide +kernel
theorem dX6_pass_84 : decode cX6_pass 84 = .ok (.ishl, 1) := by decide +kernel
theorem dX6_pass_85 : decode cX6_pass 85 = .ok (.goto 4, 3) := by decide +kernel
theorem dX6_pass_88 : decode cX6_pass 88 = .ok (.iconst 0, 1) := by decide +kernel
theorem dX6_pass_89 : decode cX6_pass 89 = .ok (.ior, 1) := by decide +kernel
theorem dX6_pass_90 : decode cX6_pass 90 = .ok (.putfield 109, 3) := by decide +kernel
theorem dX6_pass_93 : decode cX6_pass 93 = .ok (.aload_n 0, 1) := by decide +kernel
theorem dX6_pass_94 : decode cX6_pass 94 = .ok (.dup, 1) := by decide +kernel
theorem dX6_pass_95 : decode cX6_pass 95 = .ok (.getfield 116, 3) := by decide +kernel
theorem dX6_pass_98 : decode cX6_pass 98 = .ok (.iload_n 2, 1) := by decide +kernel
theorem dX6_pass_99 : decode cX6_pass 99 = .ok (.ifCond .eq 25, 3) := by decide +kernel
theorem dX6_pass_102 : decode cX6_pass 102 = .ok (.aload_n 0, 1) := by decide +kernel
theorem dX6_pass_103 : decode cX6_pass 103 = .ok (.getfield 23, 3) := by decide +kernel
theorem dX6_pass_106 : decode cX6_pass 106 = .ok (.iload_n 1, 1) := by decide +kernel
theorem dX6_pass_107 : decode cX6_pass 107 = .ok (.iaload, 1) := by decide +kernel
theorem dX6_pass_108 : decode cX6_pass 108 = .ok (.bipush 8, 2) := by decide +kernel
theorem dX6_pass_110 : decode cX6_pass 110 = .ok (.if_icmp .ge 14, 3) := by decide +kernel
theorem dX6_pass_113 : decode cX6_pass 113 = .ok (.iconst 1, 1) := by decide +kernel
theorem dX6_pass_114 : decode cX6_pass 114 = .ok (.aload_n 0, 1) := by decide +kernel
theorem dX6_pass_115 : decode cX6_pass 115 = .ok (.getfield 23, 3) := by decide +kernel
theorem dX6_pass_118 : decode cX6_pass 118 = .ok (.iload_n 1, 1) := by decide +kernel
theorem dX6_pass_119 : decode cX6_pass 119 = .ok (.iaload, 1) := by decide +kernel
theorem dX6_pass_120 : decode cX6_pass 120 = .ok (.ishl, 1) := by decide +kernel
theorem dX6_pass_121 : decode cX6_pass 121 = .ok (.goto 4, 3) := by decide +kernel
theorem dX6_pass_124 : decode cX6_pass 124 = .ok (.iconst 0, 1) := by decide +kernel
theorem dX6_pass_125 : decode cX6_pass 125 = .ok (.ior, 1) := by decide +kernel
theorem dX6_pass_126 : decode cX6_pass 126 = .ok (.putfield 116, 3) := by decide +kernel
theorem dX6_pass_129 : decode cX6_pass 129 = .ok (.iinc 1 1, 3) := by decide +kernel
theorem dX6_pass_132 : decode cX6_pass 132 = .ok (.goto (-130), 3) := by decide +kernel
theorem dX6_pass_135 : decode cX6_pass 135 = .ok (.return_, 1) := by decide +kernel
theorem dX6_happen_0 : decode cX6_happen 0 = .ok (.iload_n 1, 1) := by decide +kernel
theorem dX6_happen_1 : decode cX6_happen 1 = .ok (.bipush 100, 2) := by decide +kernel
theorem dX6_happen_3 : decode cX6_happen 3 = .ok (.if_icmp .ne 9, 3) := by decide +kernel
theorem dX6_happen_6 : decode cX6_happen 6 = .ok (.aload_n 0, 1) := by decide +kernel
theorem dX6_happen_7 : decode cX6_happen 7 = .ok (.invokevirtual 119, 3) := by decide +kernel
theorem dX6_happen_10 : decode cX6_happen 10 = .ok (.iconst 0, 1) := by decide +kernel
theorem dX6_happen_11 : decode cX6_happen 11 = .ok (.ireturn, 1) := by decide +kernel
theorem dX6_happen_12 : decode cX6_happen 12 = .ok (.iload_n 1, 1) := by decide +kernel
theorem dX6_happen_13 : decode cX6_happen 13 = .ok (.bipush 8, 2) := by decide +kernel
theorem dX6_happen_15 : decode cX6_happen 15 = .ok (.irem, 1) := by decide +kernel
theorem dX6_happen_16 : decode cX6_happen 16 = .ok (.istore_n 2, 1) := by decide +kernel
theorem dX6_happen_17 : decode cX6_happen 17 = .ok (.iload_n 1, 1) := by decide +kernel
theorem dX6_happen_18 : decode cX6_happen 18 = .ok (.bipush 8, 2) := by decide +kernel
theorem dX6_happen_20 : decode cX6_happen 20 = .ok (.if_icmp .ge 21, 3) := by decide +kernel
theorem dX6_happen_23 : decode cX6_happen 23 = .ok (.aload_n 0, 1) := by decide +kernel
theorem dX6_happen_24 : decode cX6_happen 24 = .ok (.iload_n 2, 1) := by decide +kernel
theorem dX6_happen_25 : decode cX6_happen 25 = .ok (.invokevirtual 122, 3) := by decide +kernel
theorem dX6_happen_28 : decode cX6_happen 28 = .ok (.ifCond .eq 5, 3) := by decide +kernel
theorem dX6_happen_31 : decode cX6_happen 31 = .ok (.iconst 1, 1) := by decide +kernel
theorem dX6_happen_32 : decode cX6_happen 32 = .ok (.ireturn, 1) := by decide +kernel
theorem dX6_happen_33 : decode cX6_happen 33 = .ok (.aload_n 0, 1) := by decide +kernel
theorem dX6_happen_34 : decode cX6_happen 34 = .ok (.iload_n 2, 1) := by decide +kernel
theorem dX6_happen_35 : decode cX6_happen 35 = .ok (.invokevirtual 125, 3) := by decide +kernel
theorem dX6_happen_38 : decode cX6_happen 38 = .ok (.goto 18, 3) := by decide +kernel
theorem dX6_happen_41 : decode cX6_happen 41 = .ok (.aload_n 0, 1) := by decide +kernel
theorem dX6_happen_42 : decode cX6_happen 42 = .ok (.iload_n 2, 1) := by decide +kernel
theorem dX6_happen_43 : decode cX6_happen 43 = .ok (.invokevirtual 122, 3) := by decide +kernel
theorem dX6_happen_46 : decode cX6_happen 46 = .ok (.ifCond .ne 5, 3) := by decide +kernel
theorem dX6_happen_49 : decode cX6_happen 49 = .ok (.iconst 2, 1) := by decide +kernel
theorem dX6_happen_50 : decode cX6_happen 50 = .ok (.ireturn, 1) := by decide +kernel
theorem dX6_happen_51 : decode cX6_happen 51 = .ok (.aload_n 0, 1) := by decide +kernel
theorem dX6_happen_52 : decode cX6_happen 52 = .ok (.iload_n 2, 1) := by decide +kernel
theorem dX6_happen_53 : decode cX6_happen 53 = .ok (.invokevirtual 128, 3) := by decide +kernel
theorem dX6_happen_56 : decode cX6_happen 56 = .ok (.iconst 0, 1) := by decide +kernel
theorem dX6_happen_57 : decode cX6_happen 57 = .ok (.ireturn, 1) := by decide +kernel
theorem dX6_eventOf_0 : decode cX6_eventOf 0 = .ok (.iload_n 1, 1) := by decide +kernel
theorem dX6_eventOf_1 : decode cX6_eventOf 1 = .ok (.bipush 46, 2) := by decide +kernel
theorem dX6_eventOf_3 : decode cX6_eventOf 3 = .ok (.if_icmp .ne 8, 3) := by decide +kernel
theorem dX6_eventOf_6 : decode cX6_eventOf 6 = .ok (.bipush 100, 2) := by decide +kernel
theorem dX6_eventOf_8 : decode cX6_eventOf 8 = .ok (.goto 28, 3) := by decide +kernel
theorem dX6_eventOf_11 : decode cX6_eventOf 11 = .ok (.iload_n 1, 1) := by decide +kernel
theorem dX6_eventOf_12 : decode cX6_eventOf 12 = .ok (.bipush 65, 2) := by decide +kernel
theorem dX6_eventOf_14 : decode cX6_eventOf 14 = .ok (.bipush 72, 2) := by decide +kernel
theorem dX6_eventOf_16 : decode cX6_eventOf 16 = .ok (.invokestatic 60, 3) := by decide +kernel
theorem dX6_eventOf_19 : decode cX6_eventOf 19 = .ok (.ifCond .eq 10, 3) := by decide +kernel
theorem dX6_eventOf_22 : decode cX6_eventOf 22 = .ok (.iload_n 1, 1) := by decide +kernel
theorem dX6_eventOf_23 : decode cX6_eventOf 23 = .ok (.bipush 65, 2) := by decide +kernel
theorem dX6_eventOf_25 : decode cX6_eventOf 25 = .ok (.isub, 1) := by decide +kernel
theorem dX6_eventOf_26 : decode cX6_eventOf 26 = .ok (.goto 10, 3) := by decide +kernel
theorem dX6_eventOf_29 : decode cX6_eventOf 29 = .ok (.bipush 8, 2) := by decide +kernel
theorem dX6_eventOf_31 : decode cX6_eventOf 31 = .ok (.iload_n 1, 1) := by decide +kernel
theorem dX6_eventOf_32 : decode cX6_eventOf 32 = .ok (.iadd, 1) := by decide +kernel
theorem dX6_eventOf_33 : decode cX6_eventOf 33 = .ok (.bipush 97, 2) := by decide +kernel
theorem dX6_eventOf_35 : decode cX6_eventOf 35 = .ok (.isub, 1) := by decide +kernel
theorem dX6_eventOf_36 : decode cX6_eventOf 36 = .ok (.ireturn, 1) := by decide +kernel
theorem dX6_go_0 : decode cX6_go 0 = .ok (.aload_n 0, 1) := by decide +kernel
theorem dX6_go_1 : decode cX6_go 1 = .ok (.invokevirtual 131, 3) := by decide +kernel
theorem dX6_go_4 : decode cX6_go 4 = .ok (.aload_n 0, 1) := by decide +kernel
theorem dX6_go_5 : decode cX6_go 5 = .ok (.iconst 0, 1) := by decide +kernel
theorem dX6_go_6 : decode cX6_go 6 = .ok (.putfield 134, 3) := by decide +kernel
theorem dX6_go_9 : decode cX6_go 9 = .ok (.iconst 1, 1) := by decide +kernel
theorem dX6_go_10 : decode cX6_go 10 = .ok (.istore 5, 2) := by decide +kernel
theorem dX6_go_12 : decode cX6_go 12 = .ok (.iconst 1, 1) := by decide +kernel
theorem dX6_go_13 : decode cX6_go 13 = .ok (.istore 6, 2) := by decide +kernel
theorem dX6_go_15 : decode cX6_go 15 = .ok (.iload 6, 2) := by decide +kernel
theorem dX6_go_17 : decode cX6_go 17 = .ok (.aload_n 0, 1) := by decide +kernel
theorem dX6_go_18 : decode cX6_go 18 = .ok (.aload_n 0, 1) := by decide +kernel
theorem dX6_go_19 : decode cX6_go 19 = .ok (.getfield 74, 3) := by decide +kernel
theorem dX6_go_22 : decode cX6_go 22 = .ok (.invokevirtual 137, 3) := by decide +kernel
theorem dX6_go_25 : decode cX6_go 25 = .ok (.if_icmp .ge 16, 3) := by decide +kernel
theorem dX6_go_28 : decode cX6_go 28 = .ok (.iload 5, 2) := by decide +kernel
theorem dX6_go_30 : decode cX6_go 30 = .ok (.bipush 8, 2) := by decide +kernel
theorem dX6_go_32 : decode cX6_go 32 = .ok (.imul, 1) := by decide +kernel
theorem dX6_go_33 : decode cX6_go 33 = .ok (.istore 5, 2) := by decide +kernel
theorem dX6_go_35 : decode cX6_go 35 = .ok (.iinc 6 1, 3) := by decide +kernel
theorem dX6_go_38 : decode cX6_go 38 = .ok (.goto (-23), 3) := by decide +kernel
theorem dX6_go_41 : decode cX6_go 41 = .ok (.iconst 0, 1) := by decide +kernel
theorem dX6_go_42 : decode cX6_go 42 = .ok (.istore 6, 2) := by decide +kernel
theorem dX6_go_44 : decode cX6_go 44 = .ok (.iload 6, 2) := by decide +kernel
theorem dX6_go_46 : decode cX6_go 46 = .ok (.iload_n 1, 1) := by decide +kernel
theorem dX6_go_47 : decode cX6_go 47 = .ok (.if_icmp .gt 115, 3) := by decide +kernel
theorem dX6_go_50 : decode cX6_go 50 = .ok (.iload 6, 2) := by decide +kernel
theorem dX6_go_52 : decode cX6_go 52 = .ok (.iload_n 3, 1) := by decide +kernel
theorem dX6_go_53 : decode cX6_go 53 = .ok (.if_icmp .ne 13, 3) := by decide +kernel
theorem dX6_go_56 : decode cX6_go 56 = .ok (.aload_n 0, 1) := by decide +kernel
theorem dX6_go_57 : decode cX6_go 57 = .ok (.aload_n 0, 1) := by decide +kernel
theorem dX6_go_58 : decode cX6_go 58 = .ok (.iload 4, 2) := by decide +kernel
theorem dX6_go_60 : decode cX6_go 60 = .ok (.invokevirtual 140, 3) := by decide +kernel
theorem dX6_go_63 : decode cX6_go 63 = .ok (.putfield 134, 3) := by decide +kernel
theorem dX6_go_66 : decode cX6_go 66 = .ok (.iload 6, 2) := by decide +kernel
theorem dX6_go_68 : decode cX6_go 68 = .ok (.iload_n 1, 1) := by decide +kernel
theorem dX6_go_69 : decode cX6_go 69 = .ok (.if_icmp .ge 77, 3) := by decide +kernel
theorem dX6_go_72 : decode cX6_go 72 = .ok (.aload_n 0, 1) := by decide +kernel
theorem dX6_go_73 : decode cX6_go 73 = .ok (.getfield 134, 3) := by decide +kernel
theorem dX6_go_76 : decode cX6_go 76 = .ok (.ifCond .ne 70, 3) := by decide +kernel
theorem dX6_go_79 : decode cX6_go 79 = .ok (.aload_n 0, 1) := by decide +kernel
theorem dX6_go_80 : decode cX6_go 80 = .ok (.getfield 20, 3) := by decide +kernel
theorem dX6_go_83 : decode cX6_go 83 = .ok (.iload 6, 2) := by decide +kernel
theorem dX6_go_85 : decode cX6_go 85 = .ok (.iaload, 1) := by decide +kernel
theorem dX6_go_86 : decode cX6_go 86 = .ok (.bipush 63, 2) := by decide +kernel
theorem dX6_go_88 : decode cX6_go 88 = .ok (.if_icmp .ne 39, 3) := by decide +kernel
theorem dX6_go_91 : decode cX6_go 91 = .ok (.aload_n 0, 1) := by decide +kernel
theorem dX6_go_92 : decode cX6_go 92 = .ok (.aload_n 0, 1) := by decide +kernel
theorem dX6_go_93 : decode cX6_go 93 = .ok (.iload_n 2, 1) := by decide +kernel
theorem dX6_go_94 : decode cX6_go 94 = .ok (.iload 5, 2) := by decide +kernel
theorem dX6_go_96 : decode cX6_go 96 = .ok (.idiv, 1) := by decide +kernel
theorem dX6_go_97 : decode cX6_go 97 = .ok (.bipush 8, 2) := by decide +kernel
theorem dX6_go_99 : decode cX6_go 99 = .ok (.irem, 1) := by decide +kernel
theorem dX6_go_100 : decode cX6_go 100 = .ok (.invokevirtual 140, 3) := by decide +kernel
theorem dX6_go_103 : decode cX6_go 103 = .ok (.putfield 134, 3) := by decide +kernel
theorem dX6_go_106 : decode cX6_go 106 = .ok (.iload 5, 2) := by decide +kernel
theorem dX6_go_108 : decode cX6_go 108 = .ok (.iconst 1, 1) := by decide +kernel
theorem dX6_go_109 : decode cX6_go 109 = .ok (.if_icmp .le 11, 3) := by decide +kernel
theorem dX6_go_112 : decode cX6_go 112 = .ok (.iload 5, 2) := by decide +kernel
theorem dX6_go_114 : decode cX6_go 114 = .ok (.bipush 8, 2) := by decide +kernel
theorem dX6_go_116 : decode cX6_go 116 = .ok (.idiv, 1) := by decide +kernel
theorem dX6_go_117 : decode cX6_go 117 = .ok (.goto 5, 3) := by decide +kernel
theorem dX6_go_120 : decode cX6_go 120 = .ok (.iload 5, 2) := by decide +kernel
theorem dX6_go_122 : decode cX6_go 122 = .ok (.istore 5, 2) := by decide +kernel
theorem dX6_go_124 : decode cX6_go 124 = .ok (.goto 22, 3) := by decide +kernel
theorem dX6_go_127 : decode cX6_go 127 = .ok (.aload_n 0, 1) := by decide +kernel
theorem dX6_go_128 : decode cX6_go 128 = .ok (.aload_n 0, 1) := by decide +kernel
theorem dX6_go_129 : decode cX6_go 129 = .ok (.aload_n 0, 1) := by decide +kernel
theorem dX6_go_130 : decode cX6_go 130 = .ok (.aload_n 0, 1) := by decide +kernel
theorem dX6_go_131 : decode cX6_go 131 = .ok (.getfield 20, 3) := by decide +kernel
theorem dX6_go_134 : decode cX6_go 134 = .ok (.iload 6, 2) := by decide +kernel
theorem dX6_go_136 : decode cX6_go 136 = .ok (.iaload, 1) := by decide +kernel
theorem dX6_go_137 : decode cX6_go 137 = .ok (.invokevirtual 143, 3) := by decide +kernel
theorem dX6_go_140 : decode cX6_go 140 = .ok (.invokevirtual 140, 3) := by decide +kernel
theorem dX6_go_143 : decode cX6_go 143 = .ok (.putfield 134, 3) := by decide +kernel
theorem dX6_go_146 : decode cX6_go 146 = .ok (.aload_n 0, 1) := by decide +kernel
theorem dX6_go_147 : decode cX6_go 147 = .ok (.getfield 134, 3) := by decide +kernel
theorem dX6_go_150 : decode cX6_go 150 = .ok (.ifCond .le 6, 3) := by decide +kernel
theorem dX6_go_153 : decode cX6_go 153 = .ok (.iload 6, 2) := by decide +kernel
theorem dX6_go_155 : decode cX6_go 155 = .ok (.ireturn, 1) := by decide +kernel
theorem dX6_go_156 : decode cX6_go 156 = .ok (.iinc 6 1, 3) := by decide +kernel
theorem dX6_go_159 : decode cX6_go 159 = .ok (.goto (-115), 3) := by decide +kernel
theorem dX6_go_162 : decode cX6_go 162 = .ok (.bipush (-6), 2) := by decide +kernel
