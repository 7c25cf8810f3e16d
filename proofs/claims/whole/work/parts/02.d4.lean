theorem dX6_go_164 : decode cX6_go 164 = .ok (.ireturn, 1) := by decide +kernel
theorem dX6_judge_0 : decode cX6_judge 0 = .ok (.iload_n 1, 1) := by decide +kernel
theorem dX6_judge_1 : decode cX6_judge 1 = .ok (.iconst 0, 1) := by decide +kernel
theorem dX6_judge_2 : decode cX6_judge 2 = .ok (.iconst 1, 1) := by decide +kernel
theorem dX6_judge_3 : decode cX6_judge 3 = .ok (.invokestatic 60, 3) := by decide +kernel
theorem dX6_judge_6 : decode cX6_judge 6 = .ok (.ifCond .ne 6, 3) := by decide +kernel
theorem dX6_judge_9 : decode cX6_judge 9 = .ok (.bipush (-2), 2) := by decide +kernel
theorem dX6_judge_11 : decode cX6_judge 11 = .ok (.ireturn, 1) := by decide +kernel
theorem dX6_judge_12 : decode cX6_judge 12 = .ok (.aload_n 0, 1) := by decide +kernel
theorem dX6_judge_13 : decode cX6_judge 13 = .ok (.invokevirtual 77, 3) := by decide +kernel
theorem dX6_judge_16 : decode cX6_judge 16 = .ok (.ifCond .lt 6, 3) := by decide +kernel
theorem dX6_judge_19 : decode cX6_judge 19 = .ok (.bipush (-5), 2) := by decide +kernel
theorem dX6_judge_21 : decode cX6_judge 21 = .ok (.ireturn, 1) := by decide +kernel
theorem dX6_judge_22 : decode cX6_judge 22 = .ok (.aload_n 0, 1) := by decide +kernel
theorem dX6_judge_23 : decode cX6_judge 23 = .ok (.aload_n 0, 1) := by decide +kernel
theorem dX6_judge_24 : decode cX6_judge 24 = .ok (.getfield 74, 3) := by decide +kernel
theorem dX6_judge_27 : decode cX6_judge 27 = .ok (.invokevirtual 137, 3) := by decide +kernel
theorem dX6_judge_30 : decode cX6_judge 30 = .ok (.ifCond .le 6, 3) := by decide +kernel
theorem dX6_judge_33 : decode cX6_judge 33 = .ok (.bipush (-3), 2) := by decide +kernel
theorem dX6_judge_35 : decode cX6_judge 35 = .ok (.ireturn, 1) := by decide +kernel
theorem dX6_judge_36 : decode cX6_judge 36 = .ok (.aload_n 0, 1) := by decide +kernel
theorem dX6_judge_37 : decode cX6_judge 37 = .ok (.aload_n 0, 1) := by decide +kernel
theorem dX6_judge_38 : decode cX6_judge 38 = .ok (.getfield 74, 3) := by decide +kernel
theorem dX6_judge_41 : decode cX6_judge 41 = .ok (.iconst 0, 1) := by decide +kernel
theorem dX6_judge_42 : decode cX6_judge 42 = .ok (.bipush (-6), 2) := by decide +kernel
theorem dX6_judge_44 : decode cX6_judge 44 = .ok (.iconst 0, 1) := by decide +kernel
theorem dX6_judge_45 : decode cX6_judge 45 = .ok (.invokevirtual 146, 3) := by decide +kernel
theorem dX6_judge_48 : decode cX6_judge 48 = .ok (.istore_n 2, 1) := by decide +kernel
theorem dX6_judge_49 : decode cX6_judge 49 = .ok (.iload_n 2, 1) := by decide +kernel
theorem dX6_judge_50 : decode cX6_judge 50 = .ok (.ifCond .lt 7, 3) := by decide +kernel
theorem dX6_judge_53 : decode cX6_judge 53 = .ok (.iload_n 1, 1) := by decide +kernel
theorem dX6_judge_54 : decode cX6_judge 54 = .ok (.ifCond .ne 7, 3) := by decide +kernel
theorem dX6_judge_57 : decode cX6_judge 57 = .ok (.iload_n 2, 1) := by decide +kernel
theorem dX6_judge_58 : decode cX6_judge 58 = .ok (.goto 7, 3) := by decide +kernel
theorem dX6_judge_61 : decode cX6_judge 61 = .ok (.aload_n 0, 1) := by decide +kernel
theorem dX6_judge_62 : decode cX6_judge 62 = .ok (.getfield 134, 3) := by decide +kernel
theorem dX6_judge_65 : decode cX6_judge 65 = .ok (.ireturn, 1) := by decide +kernel
theorem dX6_barOf_0 : decode cX6_barOf 0 = .ok (.aload_n 0, 1) := by decide +kernel
theorem dX6_barOf_1 : decode cX6_barOf 1 = .ok (.invokevirtual 77, 3) := by decide +kernel
theorem dX6_barOf_4 : decode cX6_barOf 4 = .ok (.ifCond .lt 6, 3) := by decide +kernel
theorem dX6_barOf_7 : decode cX6_barOf 7 = .ok (.bipush (-5), 2) := by decide +kernel
theorem dX6_barOf_9 : decode cX6_barOf 9 = .ok (.ireturn, 1) := by decide +kernel
theorem dX6_barOf_10 : decode cX6_barOf 10 = .ok (.aload_n 0, 1) := by decide +kernel
theorem dX6_barOf_11 : decode cX6_barOf 11 = .ok (.iload_n 1, 1) := by decide +kernel
theorem dX6_barOf_12 : decode cX6_barOf 12 = .ok (.invokevirtual 137, 3) := by decide +kernel
theorem dX6_barOf_15 : decode cX6_barOf 15 = .ok (.ifCond .le 6, 3) := by decide +kernel
theorem dX6_barOf_18 : decode cX6_barOf 18 = .ok (.bipush (-3), 2) := by decide +kernel
theorem dX6_barOf_20 : decode cX6_barOf 20 = .ok (.ireturn, 1) := by decide +kernel
theorem dX6_barOf_21 : decode cX6_barOf 21 = .ok (.aload_n 0, 1) := by decide +kernel
theorem dX6_barOf_22 : decode cX6_barOf 22 = .ok (.iload_n 1, 1) := by decide +kernel
theorem dX6_barOf_23 : decode cX6_barOf 23 = .ok (.iconst 0, 1) := by decide +kernel
theorem dX6_barOf_24 : decode cX6_barOf 24 = .ok (.bipush (-6), 2) := by decide +kernel
theorem dX6_barOf_26 : decode cX6_barOf 26 = .ok (.iconst 0, 1) := by decide +kernel
theorem dX6_barOf_27 : decode cX6_barOf 27 = .ok (.invokevirtual 146, 3) := by decide +kernel
theorem dX6_barOf_30 : decode cX6_barOf 30 = .ok (.ifCond .lt 8, 3) := by decide +kernel
theorem dX6_barOf_33 : decode cX6_barOf 33 = .ok (.bipush (-5), 2) := by decide +kernel
theorem dX6_barOf_35 : decode cX6_barOf 35 = .ok (.goto 4, 3) := by decide +kernel
theorem dX6_barOf_38 : decode cX6_barOf 38 = .ok (.iconst 0, 1) := by decide +kernel
theorem dX6_barOf_39 : decode cX6_barOf 39 = .ok (.ireturn, 1) := by decide +kernel
theorem dX6_bed_0 : decode cX6_bed 0 = .ok (.iload_n 1, 1) := by decide +kernel
theorem dX6_bed_1 : decode cX6_bed 1 = .ok (.invokestatic 67, 3) := by decide +kernel
theorem dX6_bed_4 : decode cX6_bed 4 = .ok (.ifCond .ne 5, 3) := by decide +kernel
theorem dX6_bed_7 : decode cX6_bed 7 = .ok (.iconst (-1), 1) := by decide +kernel
theorem dX6_bed_8 : decode cX6_bed 8 = .ok (.ireturn, 1) := by decide +kernel
theorem dX6_bed_9 : decode cX6_bed 9 = .ok (.iload_n 2, 1) := by decide +kernel
theorem dX6_bed_10 : decode cX6_bed 10 = .ok (.iconst (-1), 1) := by decide +kernel
theorem dX6_bed_11 : decode cX6_bed 11 = .ok (.aload_n 0, 1) := by decide +kernel
theorem dX6_bed_12 : decode cX6_bed 12 = .ok (.getfield 74, 3) := by decide +kernel
theorem dX6_bed_15 : decode cX6_bed 15 = .ok (.invokestatic 60, 3) := by decide +kernel
theorem dX6_bed_18 : decode cX6_bed 18 = .ok (.ifCond .ne 6, 3) := by decide +kernel
theorem dX6_bed_21 : decode cX6_bed 21 = .ok (.bipush (-2), 2) := by decide +kernel
theorem dX6_bed_23 : decode cX6_bed 23 = .ok (.ireturn, 1) := by decide +kernel
theorem dX6_bed_24 : decode cX6_bed 24 = .ok (.aload_n 0, 1) := by decide +kernel
theorem dX6_bed_25 : decode cX6_bed 25 = .ok (.iload_n 2, 1) := by decide +kernel
theorem dX6_bed_26 : decode cX6_bed 26 = .ok (.ifCond .ge 10, 3) := by decide +kernel
theorem dX6_bed_29 : decode cX6_bed 29 = .ok (.aload_n 0, 1) := by decide +kernel
theorem dX6_bed_30 : decode cX6_bed 30 = .ok (.getfield 74, 3) := by decide +kernel
theorem dX6_bed_33 : decode cX6_bed 33 = .ok (.goto 4, 3) := by decide +kernel
theorem dX6_bed_36 : decode cX6_bed 36 = .ok (.iload_n 2, 1) := by decide +kernel
theorem dX6_bed_37 : decode cX6_bed 37 = .ok (.invokevirtual 150, 3) := by decide +kernel
theorem dX6_bed_40 : decode cX6_bed 40 = .ok (.istore_n 3, 1) := by decide +kernel
theorem dX6_bed_41 : decode cX6_bed 41 = .ok (.iload_n 3, 1) := by decide +kernel
theorem dX6_bed_42 : decode cX6_bed 42 = .ok (.ifCond .ge 7, 3) := by decide +kernel
theorem dX6_bed_45 : decode cX6_bed 45 = .ok (.iload_n 3, 1) := by decide +kernel
theorem dX6_bed_46 : decode cX6_bed 46 = .ok (.goto 8, 3) := by decide +kernel
theorem dX6_bed_49 : decode cX6_bed 49 = .ok (.aload_n 0, 1) := by decide +kernel
theorem dX6_bed_50 : decode cX6_bed 50 = .ok (.iload_n 1, 1) := by decide +kernel
theorem dX6_bed_51 : decode cX6_bed 51 = .ok (.invokevirtual 87, 3) := by decide +kernel
theorem dX6_bed_54 : decode cX6_bed 54 = .ok (.ireturn, 1) := by decide +kernel
theorem dX6_who_0 : decode cX6_who 0 = .ok (.aload_n 0, 1) := by decide +kernel
theorem dX6_who_1 : decode cX6_who 1 = .ok (.iload_n 1, 1) := by decide +kernel
theorem dX6_who_2 : decode cX6_who 2 = .ok (.invokevirtual 71, 3) := by decide +kernel
theorem dX6_who_5 : decode cX6_who 5 = .ok (.ifCond .ne 5, 3) := by decide +kernel
theorem dX6_who_8 : decode cX6_who 8 = .ok (.iconst (-1), 1) := by decide +kernel
theorem dX6_who_9 : decode cX6_who 9 = .ok (.ireturn, 1) := by decide +kernel
theorem dX6_who_10 : decode cX6_who 10 = .ok (.iload_n 2, 1) := by decide +kernel
theorem dX6_who_11 : decode cX6_who 11 = .ok (.iconst (-1), 1) := by decide +kernel
theorem dX6_who_12 : decode cX6_who 12 = .ok (.aload_n 0, 1) := by decide +kernel
theorem dX6_who_13 : decode cX6_who 13 = .ok (.getfield 74, 3) := by decide +kernel
theorem dX6_who_16 : decode cX6_who 16 = .ok (.invokestatic 60, 3) := by decide +kernel
theorem dX6_who_19 : decode cX6_who 19 = .ok (.ifCond .ne 6, 3) := by decide +kernel
theorem dX6_who_22 : decode cX6_who 22 = .ok (.bipush (-2), 2) := by decide +kernel
theorem dX6_who_24 : decode cX6_who 24 = .ok (.ireturn, 1) := by decide +kernel
theorem dX6_who_25 : decode cX6_who 25 = .ok (.aload_n 0, 1) := by decide +kernel
theorem dX6_who_26 : decode cX6_who 26 = .ok (.iload_n 2, 1) := by decide +kernel
theorem dX6_who_27 : decode cX6_who 27 = .ok (.ifCond .ge 10, 3) := by decide +kernel
theorem dX6_who_30 : decode cX6_who 30 = .ok (.aload_n 0, 1) := by decide +kernel
theorem dX6_who_31 : decode cX6_who 31 = .ok (.getfield 74, 3) := by decide +kernel
theorem dX6_who_34 : decode cX6_who 34 = .ok (.goto 4, 3) := by decide +kernel
theorem dX6_who_37 : decode cX6_who 37 = .ok (.iload_n 2, 1) := by decide +kernel
theorem dX6_who_38 : decode cX6_who 38 = .ok (.invokevirtual 150, 3) := by decide +kernel
theorem dX6_who_41 : decode cX6_who 41 = .ok (.istore_n 3, 1) := by decide +kernel
theorem dX6_who_42 : decode cX6_who 42 = .ok (.iload_n 3, 1) := by decide +kernel
theorem dX6_who_43 : decode cX6_who 43 = .ok (.ifCond .ge 7, 3) := by decide +kernel
theorem dX6_who_46 : decode cX6_who 46 = .ok (.iload_n 3, 1) := by decide +kernel
theorem dX6_who_47 : decode cX6_who 47 = .ok (.goto 9, 3) := by decide +kernel
theorem dX6_who_50 : decode cX6_who 50 = .ok (.aload_n 0, 1) := by decide +kernel
theorem dX6_who_51 : decode cX6_who 51 = .ok (.getfield 23, 3) := by decide +kernel
theorem dX6_who_54 : decode cX6_who 54 = .ok (.iload_n 1, 1) := by decide +kernel
theorem dX6_who_55 : decode cX6_who 55 = .ok (.iaload, 1) := by decide +kernel
theorem dX6_who_56 : decode cX6_who 56 = .ok (.ireturn, 1) := by decide +kernel
theorem dX6_left_0 : decode cX6_left 0 = .ok (.iload_n 1, 1) := by decide +kernel
theorem dX6_left_1 : decode cX6_left 1 = .ok (.iconst (-1), 1) := by decide +kernel
theorem dX6_left_2 : decode cX6_left 2 = .ok (.aload_n 0, 1) := by decide +kernel
theorem dX6_left_3 : decode cX6_left 3 = .ok (.getfield 74, 3) := by decide +kernel
theorem dX6_left_6 : decode cX6_left 6 = .ok (.invokestatic 60, 3) := by decide +kernel
theorem dX6_left_9 : decode cX6_left 9 = .ok (.ifCond .ne 6, 3) := by decide +kernel
theorem dX6_left_12 : decode cX6_left 12 = .ok (.bipush (-2), 2) := by decide +kernel
theorem dX6_left_14 : decode cX6_left 14 = .ok (.ireturn, 1) := by decide +kernel
theorem dX6_left_15 : decode cX6_left 15 = .ok (.aload_n 0, 1) := by decide +kernel
theorem dX6_left_16 : decode cX6_left 16 = .ok (.iload_n 1, 1) := by decide +kernel
theorem dX6_left_17 : decode cX6_left 17 = .ok (.ifCond .ge 10, 3) := by decide +kernel
theorem dX6_left_20 : decode cX6_left 20 = .ok (.aload_n 0, 1) := by decide +kernel
theorem dX6_left_21 : decode cX6_left 21 = .ok (.getfield 74, 3) := by decide +kernel
theorem dX6_left_24 : decode cX6_left 24 = .ok (.goto 4, 3) := by decide +kernel
theorem dX6_left_27 : decode cX6_left 27 = .ok (.iload_n 1, 1) := by decide +kernel
theorem dX6_left_28 : decode cX6_left 28 = .ok (.invokevirtual 150, 3) := by decide +kernel
theorem dX6_left_31 : decode cX6_left 31 = .ok (.istore_n 3, 1) := by decide +kernel
theorem dX6_left_32 : decode cX6_left 32 = .ok (.iload_n 3, 1) := by decide +kernel
theorem dX6_left_33 : decode cX6_left 33 = .ok (.ifCond .ge 7, 3) := by decide +kernel
theorem dX6_left_36 : decode cX6_left 36 = .ok (.iload_n 3, 1) := by decide +kernel
theorem dX6_left_37 : decode cX6_left 37 = .ok (.goto 47, 3) := by decide +kernel
theorem dX6_left_40 : decode cX6_left 40 = .ok (.iload_n 2, 1) := by decide +kernel
theorem dX6_left_41 : decode cX6_left 41 = .ok (.iconst (-1), 1) := by decide +kernel
theorem dX6_left_42 : decode cX6_left 42 = .ok (.if_icmp .ne 10, 3) := by decide +kernel
theorem dX6_left_45 : decode cX6_left 45 = .ok (.aload_n 0, 1) := by decide +kernel
theorem dX6_left_46 : decode cX6_left 46 = .ok (.getfield 84, 3) := by decide +kernel
theorem dX6_left_49 : decode cX6_left 49 = .ok (.goto 35, 3) := by decide +kernel
theorem dX6_left_52 : decode cX6_left 52 = .ok (.iload_n 2, 1) := by decide +kernel
theorem dX6_left_53 : decode cX6_left 53 = .ok (.iconst 0, 1) := by decide +kernel
theorem dX6_left_54 : decode cX6_left 54 = .ok (.aload_n 0, 1) := by decide +kernel
theorem dX6_left_55 : decode cX6_left 55 = .ok (.getfield 81, 3) := by decide +kernel
theorem dX6_left_58 : decode cX6_left 58 = .ok (.iconst 1, 1) := by decide +kernel
theorem dX6_left_59 : decode cX6_left 59 = .ok (.isub, 1) := by decide +kernel
theorem dX6_left_60 : decode cX6_left 60 = .ok (.invokestatic 60, 3) := by decide +kernel
theorem dX6_left_63 : decode cX6_left 63 = .ok (.ifCond .eq 19, 3) := by decide +kernel
theorem dX6_left_66 : decode cX6_left 66 = .ok (.aload_n 0, 1) := by decide +kernel
theorem dX6_left_67 : decode cX6_left 67 = .ok (.getfield 26, 3) := by decide +kernel
theorem dX6_left_70 : decode cX6_left 70 = .ok (.aload_n 0, 1) := by decide +kernel
theorem dX6_left_71 : decode cX6_left 71 = .ok (.getfield 81, 3) := by decide +kernel
theorem dX6_left_74 : decode cX6_left 74 = .ok (.iconst 1, 1) := by decide +kernel
theorem dX6_left_75 : decode cX6_left 75 = .ok (.isub, 1) := by decide +kernel
theorem dX6_left_76 : decode cX6_left 76 = .ok (.iload_n 2, 1) := by decide +kernel
theorem dX6_left_77 : decode cX6_left 77 = .ok (.isub, 1) := by decide +kernel
theorem dX6_left_78 : decode cX6_left 78 = .ok (.iaload, 1) := by decide +kernel
theorem dX6_left_79 : decode cX6_left 79 = .ok (.goto 5, 3) := by decide +kernel
theorem dX6_left_82 : decode cX6_left 82 = .ok (.bipush (-6), 2) := by decide +kernel
theorem dX6_left_84 : decode cX6_left 84 = .ok (.ireturn, 1) := by decide +kernel
theorem dX6_slept_0 : decode cX6_slept 0 = .ok (.aload_n 0, 1) := by decide +kernel
theorem dX6_slept_1 : decode cX6_slept 1 = .ok (.iload_n 1, 1) := by decide +kernel
theorem dX6_slept_2 : decode cX6_slept 2 = .ok (.invokevirtual 71, 3) := by decide +kernel
theorem dX6_slept_5 : decode cX6_slept 5 = .ok (.ifCond .ne 5, 3) := by decide +kernel
theorem dX6_slept_8 : decode cX6_slept 8 = .ok (.iconst (-1), 1) := by decide +kernel
theorem dX6_slept_9 : decode cX6_slept 9 = .ok (.ireturn, 1) := by decide +kernel
theorem dX6_slept_10 : decode cX6_slept 10 = .ok (.iload_n 2, 1) := by decide +kernel
theorem dX6_slept_11 : decode cX6_slept 11 = .ok (.iconst 0, 1) := by decide +kernel
theorem dX6_slept_12 : decode cX6_slept 12 = .ok (.iconst 2, 1) := by decide +kernel
theorem dX6_slept_13 : decode cX6_slept 13 = .ok (.invokestatic 60, 3) := by decide +kernel
theorem dX6_slept_16 : decode cX6_slept 16 = .ok (.ifCond .ne 6, 3) := by decide +kernel
theorem dX6_slept_19 : decode cX6_slept 19 = .ok (.bipush (-2), 2) := by decide +kernel
theorem dX6_slept_21 : decode cX6_slept 21 = .ok (.ireturn, 1) := by decide +kernel
theorem dX6_slept_22 : decode cX6_slept 22 = .ok (.aload_n 0, 1) := by decide +kernel
theorem dX6_slept_23 : decode cX6_slept 23 = .ok (.aload_n 0, 1) := by decide +kernel
theorem dX6_slept_24 : decode cX6_slept 24 = .ok (.getfield 74, 3) := by decide +kernel
theorem dX6_slept_27 : decode cX6_slept 27 = .ok (.invokevirtual 150, 3) := by decide +kernel
theorem dX6_slept_30 : decode cX6_slept 30 = .ok (.istore_n 3, 1) := by decide +kernel
theorem dX6_slept_31 : decode cX6_slept 31 = .ok (.iload_n 3, 1) := by decide +kernel
theorem dX6_slept_32 : decode cX6_slept 32 = .ok (.ifCond .ge 7, 3) := by decide +kernel
theorem dX6_slept_35 : decode cX6_slept 35 = .ok (.iload_n 3, 1) := by decide +kernel
theorem dX6_slept_36 : decode cX6_slept 36 = .ok (.goto 36, 3) := by decide +kernel
theorem dX6_slept_39 : decode cX6_slept 39 = .ok (.iload_n 2, 1) := by decide +kernel
theorem dX6_slept_40 : decode cX6_slept 40 = .ok (.ifCond .ne 12, 3) := by decide +kernel
theorem dX6_slept_43 : decode cX6_slept 43 = .ok (.aload_n 0, 1) := by decide +kernel
theorem dX6_slept_44 : decode cX6_slept 44 = .ok (.getfield 41, 3) := by decide +kernel
theorem dX6_slept_47 : decode cX6_slept 47 = .ok (.iload_n 1, 1) := by decide +kernel
theorem dX6_slept_48 : decode cX6_slept 48 = .ok (.iaload, 1) := by decide +kernel
theorem dX6_slept_49 : decode cX6_slept 49 = .ok (.goto 23, 3) := by decide +kernel
theorem dX6_slept_52 : decode cX6_slept 52 = .ok (.iload_n 2, 1) := by decide +kernel
theorem dX6_slept_53 : decode cX6_slept 53 = .ok (.iconst 1, 1) := by decide +kernel
theorem dX6_slept_54 : decode cX6_slept 54 = .ok (.if_icmp .ne 12, 3) := by decide +kernel
theorem dX6_slept_57 : decode cX6_slept 57 = .ok (.aload_n 0, 1) := by decide +kernel
theorem dX6_slept_58 : decode cX6_slept 58 = .ok (.getfield 35, 3) := by decide +kernel
theorem dX6_slept_61 : decode cX6_slept 61 = .ok (.iload_n 1, 1) := by decide +kernel
theorem dX6_slept_62 : decode cX6_slept 62 = .ok (.iaload, 1) := by decide +kernel
theorem dX6_slept_63 : decode cX6_slept 63 = .ok (.goto 9, 3) := by decide +kernel
theorem dX6_slept_66 : decode cX6_slept 66 = .ok (.aload_n 0, 1) := by decide +kernel
theorem dX6_slept_67 : decode cX6_slept 67 = .ok (.getfield 38, 3) := by decide +kernel
theorem dX6_slept_70 : decode cX6_slept 70 = .ok (.iload_n 1, 1) := by decide +kernel
theorem dX6_slept_71 : decode cX6_slept 71 = .ok (.iaload, 1) := by decide +kernel
theorem dX6_slept_72 : decode cX6_slept 72 = .ok (.ireturn, 1) := by decide +kernel
theorem dX6_fewest_0 : decode cX6_fewest 0 = .ok (.iload_n 1, 1) := by decide +kernel
theorem dX6_fewest_1 : decode cX6_fewest 1 = .ok (.iconst 0, 1) := by decide +kernel
theorem dX6_fewest_2 : decode cX6_fewest 2 = .ok (.iconst 1, 1) := by decide +kernel
theorem dX6_fewest_3 : decode cX6_fewest 3 = .ok (.invokestatic 60, 3) := by decide +kernel
theorem dX6_fewest_6 : decode cX6_fewest 6 = .ok (.ifCond .ne 6, 3) := by decide +kernel
theorem dX6_fewest_9 : decode cX6_fewest 9 = .ok (.bipush (-2), 2) := by decide +kernel
theorem dX6_fewest_11 : decode cX6_fewest 11 = .ok (.ireturn, 1) := by decide +kernel
theorem dX6_fewest_12 : decode cX6_fewest 12 = .ok (.aload_n 0, 1) := by decide +kernel
theorem dX6_fewest_13 : decode cX6_fewest 13 = .ok (.aload_n 0, 1) := by decide +kernel
theorem dX6_fewest_14 : decode cX6_fewest 14 = .ok (.getfield 74, 3) := by decide +kernel
theorem dX6_fewest_17 : decode cX6_fewest 17 = .ok (.invokevirtual 150, 3) := by decide +kernel
theorem dX6_fewest_20 : decode cX6_fewest 20 = .ok (.istore_n 2, 1) := by decide +kernel
theorem dX6_fewest_21 : decode cX6_fewest 21 = .ok (.iload_n 2, 1) := by decide +kernel
theorem dX6_fewest_22 : decode cX6_fewest 22 = .ok (.ifCond .ge 5, 3) := by decide +kernel
theorem dX6_fewest_25 : decode cX6_fewest 25 = .ok (.iload_n 2, 1) := by decide +kernel
theorem dX6_fewest_26 : decode cX6_fewest 26 = .ok (.ireturn, 1) := by decide +kernel
theorem dX6_fewest_27 : decode cX6_fewest 27 = .ok (.aload_n 0, 1) := by decide +kernel
theorem dX6_fewest_28 : decode cX6_fewest 28 = .ok (.getfield 57, 3) := by decide +kernel
theorem dX6_fewest_31 : decode cX6_fewest 31 = .ok (.istore_n 3, 1) := by decide +kernel
theorem dX6_fewest_32 : decode cX6_fewest 32 = .ok (.bipush (-6), 2) := by decide +kernel
theorem dX6_fewest_34 : decode cX6_fewest 34 = .ok (.istore 4, 2) := by decide +kernel
theorem dX6_fewest_36 : decode cX6_fewest 36 = .ok (.bipush (-6), 2) := by decide +kernel
theorem dX6_fewest_38 : decode cX6_fewest 38 = .ok (.istore 5, 2) := by decide +kernel
theorem dX6_fewest_40 : decode cX6_fewest 40 = .ok (.iconst 0, 1) := by decide +kernel
theorem dX6_fewest_41 : decode cX6_fewest 41 = .ok (.istore 6, 2) := by decide +kernel
theorem dX6_fewest_43 : decode cX6_fewest 43 = .ok (.iload 6, 2) := by decide +kernel
theorem dX6_fewest_45 : decode cX6_fewest 45 = .ok (.iconst 4, 1) := by decide +kernel
theorem dX6_fewest_46 : decode cX6_fewest 46 = .ok (.if_icmp .ge 115, 3) := by decide +kernel
theorem dX6_fewest_49 : decode cX6_fewest 49 = .ok (.aload_n 0, 1) := by decide +kernel
theorem dX6_fewest_50 : decode cX6_fewest 50 = .ok (.iload 6, 2) := by decide +kernel
theorem dX6_fewest_52 : decode cX6_fewest 52 = .ok (.putfield 57, 3) := by decide +kernel
theorem dX6_fewest_55 : decode cX6_fewest 55 = .ok (.aload_n 0, 1) := by decide +kernel
theorem dX6_fewest_56 : decode cX6_fewest 56 = .ok (.aload_n 0, 1) := by decide +kernel
theorem dX6_fewest_57 : decode cX6_fewest 57 = .ok (.getfield 74, 3) := by decide +kernel
theorem dX6_fewest_60 : decode cX6_fewest 60 = .ok (.iconst 0, 1) := by decide +kernel
theorem dX6_fewest_61 : decode cX6_fewest 61 = .ok (.bipush (-6), 2) := by decide +kernel
theorem dX6_fewest_63 : decode cX6_fewest 63 = .ok (.iconst 0, 1) := by decide +kernel
theorem dX6_fewest_64 : decode cX6_fewest 64 = .ok (.invokevirtual 146, 3) := by decide +kernel
theorem dX6_fewest_67 : decode cX6_fewest 67 = .ok (.istore 7, 2) := by decide +kernel
theorem dX6_fewest_69 : decode cX6_fewest 69 = .ok (.iload 7, 2) := by decide +kernel
theorem dX6_fewest_71 : decode cX6_fewest 71 = .ok (.ifCond .ge 7, 3) := by decide +kernel
theorem dX6_fewest_74 : decode cX6_fewest 74 = .ok (.iconst 0, 1) := by decide +kernel
theorem dX6_fewest_75 : decode cX6_fewest 75 = .ok (.goto 6, 3) := by decide +kernel
theorem dX6_fewest_78 : decode cX6_fewest 78 = .ok (.sipush 1000, 3) := by decide +kernel
theorem dX6_fewest_81 : decode cX6_fewest 81 = .ok (.istore 8, 2) := by decide +kernel
theorem dX6_fewest_83 : decode cX6_fewest 83 = .ok (.iconst 0, 1) := by decide +kernel
theorem dX6_fewest_84 : decode cX6_fewest 84 = .ok (.istore 9, 2) := by decide +kernel
theorem dX6_fewest_86 : decode cX6_fewest 86 = .ok (.iload 9, 2) := by decide +kernel
theorem dX6_fewest_88 : decode cX6_fewest 88 = .ok (.aload_n 0, 1) := by decide +kernel
theorem dX6_fewest_89 : decode cX6_fewest 89 = .ok (.getfield 7, 3) := by decide +kernel
theorem dX6_fewest_92 : decode cX6_fewest 92 = .ok (.if_icmp .ge 21, 3) := by decide +kernel
theorem dX6_fewest_95 : decode cX6_fewest 95 = .ok (.iload 8, 2) := by decide +kernel
theorem dX6_fewest_97 : decode cX6_fewest 97 = .ok (.aload_n 0, 1) := by decide +kernel
theorem dX6_fewest_98 : decode cX6_fewest 98 = .ok (.getfield 38, 3) := by decide +kernel
theorem dX6_fewest_101 : decode cX6_fewest 101 = .ok (.iload 9, 2) := by decide +kernel
theorem dX6_fewest_103 : decode cX6_fewest 103 = .ok (.iaload, 1) := by decide +kernel
theorem dX6_fewest_104 : decode cX6_fewest 104 = .ok (.iadd, 1) := by decide +kernel
theorem dX6_fewest_105 : decode cX6_fewest 105 = .ok (.istore 8, 2) := by decide +kernel
theorem dX6_fewest_107 : decode cX6_fewest 107 = .ok (.iinc 9 1, 3) := by decide +kernel
theorem dX6_fewest_110 : decode cX6_fewest 110 = .ok (.goto (-24), 3) := by decide +kernel
theorem dX6_fewest_113 : decode cX6_fewest 113 = .ok (.iload 4, 2) := by decide +kernel
theorem dX6_fewest_115 : decode cX6_fewest 115 = .ok (.ifCond .lt 10, 3) := by decide +kernel
theorem dX6_fewest_118 : decode cX6_fewest 118 = .ok (.iload 8, 2) := by decide +kernel
theorem dX6_fewest_120 : decode cX6_fewest 120 = .ok (.iload 5, 2) := by decide +kernel
theorem dX6_fewest_122 : decode cX6_fewest 122 = .ok (.if_icmp .ge 8, 3) := by decide +kernel
theorem dX6_fewest_125 : decode cX6_fewest 125 = .ok (.iload 6, 2) := by decide +kernel
theorem dX6_fewest_127 : decode cX6_fewest 127 = .ok (.goto 5, 3) := by decide +kernel
theorem dX6_fewest_130 : decode cX6_fewest 130 = .ok (.iload 4, 2) := by decide +kernel
theorem dX6_fewest_132 : decode cX6_fewest 132 = .ok (.istore 4, 2) := by decide +kernel
theorem dX6_fewest_134 : decode cX6_fewest 134 = .ok (.iload 5, 2) := by decide +kernel
theorem dX6_fewest_136 : decode cX6_fewest 136 = .ok (.ifCond .lt 10, 3) := by decide +kernel
theorem dX6_fewest_139 : decode cX6_fewest 139 = .ok (.iload 8, 2) := by decide +kernel
theorem dX6_fewest_141 : decode cX6_fewest 141 = .ok (.iload 5, 2) := by decide +kernel
theorem dX6_fewest_143 : decode cX6_fewest 143 = .ok (.if_icmp .ge 8, 3) := by decide +kernel
theorem dX6_fewest_146 : decode cX6_fewest 146 = .ok (.iload 8, 2) := by decide +kernel
theorem dX6_fewest_148 : decode cX6_fewest 148 = .ok (.goto 5, 3) := by decide +kernel
theorem dX6_fewest_151 : decode cX6_fewest 151 = .ok (.iload 5, 2) := by decide +kernel
theorem dX6_fewest_153 : decode cX6_fewest 153 = .ok (.istore 5, 2) := by decide +kernel
theorem dX6_fewest_155 : decode cX6_fewest 155 = .ok (.iinc 6 1, 3) := by decide +kernel
theorem dX6_fewest_158 : decode cX6_fewest 158 = .ok (.goto (-115), 3) := by decide +kernel
theorem dX6_fewest_161 : decode cX6_fewest 161 = .ok (.aload_n 0, 1) := by decide +kernel
theorem dX6_fewest_162 : decode cX6_fewest 162 = .ok (.iload_n 3, 1) := by decide +kernel
theorem dX6_fewest_163 : decode cX6_fewest 163 = .ok (.putfield 57, 3) := by decide +kernel
theorem dX6_fewest_166 : decode cX6_fewest 166 = .ok (.iload_n 1, 1) := by decide +kernel
theorem dX6_fewest_167 : decode cX6_fewest 167 = .ok (.ifCond .ne 8, 3) := by decide +kernel
theorem dX6_fewest_170 : decode cX6_fewest 170 = .ok (.iload 4, 2) := by decide +kernel
theorem dX6_fewest_172 : decode cX6_fewest 172 = .ok (.goto 5, 3) := by decide +kernel
theorem dX6_fewest_175 : decode cX6_fewest 175 = .ok (.iload 5, 2) := by decide +kernel
theorem dX6_fewest_177 : decode cX6_fewest 177 = .ok (.ireturn, 1) := by decide +kernel
theorem dX6_isInDay_0 : decode cX6_isInDay 0 = .ok (.iconst 0, 1) := by decide +kernel
theorem dX6_isInDay_1 : decode cX6_isInDay 1 = .ok (.istore_n 2, 1) := by decide +kernel
theorem dX6_isInDay_2 : decode cX6_isInDay 2 = .ok (.iconst 0, 1) := by decide +kernel
theorem dX6_isInDay_3 : decode cX6_isInDay 3 = .ok (.istore_n 3, 1) := by decide +kernel
theorem dX6_isInDay_4 : decode cX6_isInDay 4 = .ok (.iload_n 3, 1) := by decide +kernel
theorem dX6_isInDay_5 : decode cX6_isInDay 5 = .ok (.aload_n 0, 1) := by decide +kernel
theorem dX6_isInDay_6 : decode cX6_isInDay 6 = .ok (.getfield 74, 3) := by decide +kernel
theorem dX6_isInDay_9 : decode cX6_isInDay 9 = .ok (.if_icmp .ge 45, 3) := by decide +kernel
theorem dX6_isInDay_12 : decode cX6_isInDay 12 = .ok (.iload_n 2, 1) := by decide +kernel
theorem dX6_isInDay_13 : decode cX6_isInDay 13 = .ok (.ifCond .ne 29, 3) := by decide +kernel
theorem dX6_isInDay_16 : decode cX6_isInDay 16 = .ok (.aload_n 0, 1) := by decide +kernel
theorem dX6_isInDay_17 : decode cX6_isInDay 17 = .ok (.getfield 20, 3) := by decide +kernel
theorem dX6_isInDay_20 : decode cX6_isInDay 20 = .ok (.iload_n 3, 1) := by decide +kernel
theorem dX6_isInDay_21 : decode cX6_isInDay 21 = .ok (.iaload, 1) := by decide +kernel
theorem dX6_isInDay_22 : decode cX6_isInDay 22 = .ok (.bipush 65, 2) := by decide +kernel
theorem dX6_isInDay_24 : decode cX6_isInDay 24 = .ok (.iload_n 1, 1) := by decide +kernel
theorem dX6_isInDay_25 : decode cX6_isInDay 25 = .ok (.iadd, 1) := by decide +kernel
theorem dX6_isInDay_26 : decode cX6_isInDay 26 = .ok (.if_icmp .eq 16, 3) := by decide +kernel
theorem dX6_isInDay_29 : decode cX6_isInDay 29 = .ok (.aload_n 0, 1) := by decide +kernel
theorem dX6_isInDay_30 : decode cX6_isInDay 30 = .ok (.getfield 20, 3) := by decide +kernel
theorem dX6_isInDay_33 : decode cX6_isInDay 33 = .ok (.iload_n 3, 1) := by decide +kernel
theorem dX6_isInDay_34 : decode cX6_isInDay 34 = .ok (.iaload, 1) := by decide +kernel
theorem dX6_isInDay_35 : decode cX6_isInDay 35 = .ok (.bipush 97, 2) := by decide +kernel
theorem dX6_isInDay_37 : decode cX6_isInDay 37 = .ok (.iload_n 1, 1) := by decide +kernel
theorem dX6_isInDay_38 : decode cX6_isInDay 38 = .ok (.iadd, 1) := by decide +kernel
theorem dX6_isInDay_39 : decode cX6_isInDay 39 = .ok (.if_icmp .ne 7, 3) := by decide +kernel
theorem dX6_isInDay_42 : decode cX6_isInDay 42 = .ok (.iconst 1, 1) := by decide +kernel
theorem dX6_isInDay_43 : decode cX6_isInDay 43 = .ok (.goto 4, 3) := by decide +kernel
theorem dX6_isInDay_46 : decode cX6_isInDay 46 = .ok (.iconst 0, 1) := by decide +kernel
theorem dX6_isInDay_47 : decode cX6_isInDay 47 = .ok (.istore_n 2, 1) := by decide +kernel
theorem dX6_isInDay_48 : decode cX6_isInDay 48 = .ok (.iinc 3 1, 3) := by decide +kernel
theorem dX6_isInDay_51 : decode cX6_isInDay 51 = .ok (.goto (-47), 3) := by decide +kernel
theorem dX6_isInDay_54 : decode cX6_isInDay 54 = .ok (.iload_n 2, 1) := by decide +kernel
theorem dX6_isInDay_55 : decode cX6_isInDay 55 = .ok (.ireturn, 1) := by decide +kernel
theorem dX6_barOfComing_0 : decode cX6_barOfComing 0 = .ok (.aload_n 0, 1) := by decide +kernel
theorem dX6_barOfComing_1 : decode cX6_barOfComing 1 = .ok (.aload_n 0, 1) := by decide +kernel
theorem dX6_barOfComing_2 : decode cX6_barOfComing 2 = .ok (.getfield 74, 3) := by decide +kernel
theorem dX6_barOfComing_5 : decode cX6_barOfComing 5 = .ok (.invokevirtual 150, 3) := by decide +kernel
theorem dX6_barOfComing_8 : decode cX6_barOfComing 8 = .ok (.istore_n 1, 1) := by decide +kernel
theorem dX6_barOfComing_9 : decode cX6_barOfComing 9 = .ok (.iload_n 1, 1) := by decide +kernel
theorem dX6_barOfComing_10 : decode cX6_barOfComing 10 = .ok (.ifCond .ge 7, 3) := by decide +kernel
theorem dX6_barOfComing_13 : decode cX6_barOfComing 13 = .ok (.iload_n 1, 1) := by decide +kernel
theorem dX6_barOfComing_14 : decode cX6_barOfComing 14 = .ok (.goto 18, 3) := by decide +kernel
theorem dX6_barOfComing_17 : decode cX6_barOfComing 17 = .ok (.aload_n 0, 1) := by decide +kernel
theorem dX6_barOfComing_18 : decode cX6_barOfComing 18 = .ok (.getfield 74, 3) := by decide +kernel
theorem dX6_barOfComing_21 : decode cX6_barOfComing 21 = .ok (.bipush 48, 2) := by decide +kernel
theorem dX6_barOfComing_23 : decode cX6_barOfComing 23 = .ok (.if_icmp .ne 8, 3) := by decide +kernel
theorem dX6_barOfComing_26 : decode cX6_barOfComing 26 = .ok (.bipush (-4), 2) := by decide +kernel
theorem dX6_barOfComing_28 : decode cX6_barOfComing 28 = .ok (.goto 4, 3) := by decide +kernel
theorem dX6_barOfComing_31 : decode cX6_barOfComing 31 = .ok (.iconst 0, 1) := by decide +kernel
theorem dX6_barOfComing_32 : decode cX6_barOfComing 32 = .ok (.ireturn, 1) := by decide +kernel
theorem dX6_when_0 : decode cX6_when 0 = .ok (.iload_n 1, 1) := by decide +kernel
theorem dX6_when_1 : decode cX6_when 1 = .ok (.invokestatic 67, 3) := by decide +kernel
theorem dX6_when_4 : decode cX6_when 4 = .ok (.ifCond .eq 19, 3) := by decide +kernel
theorem dX6_when_7 : decode cX6_when 7 = .ok (.aload_n 0, 1) := by decide +kernel
theorem dX6_when_8 : decode cX6_when 8 = .ok (.iload_n 2, 1) := by decide +kernel
theorem dX6_when_9 : decode cX6_when 9 = .ok (.invokevirtual 71, 3) := by decide +kernel
theorem dX6_when_12 : decode cX6_when 12 = .ok (.ifCond .eq 11, 3) := by decide +kernel
theorem dX6_when_15 : decode cX6_when 15 = .ok (.aload_n 0, 1) := by decide +kernel
theorem dX6_when_16 : decode cX6_when 16 = .ok (.iload_n 1, 1) := by decide +kernel
theorem dX6_when_17 : decode cX6_when 17 = .ok (.invokevirtual 153, 3) := by decide +kernel
theorem dX6_when_20 : decode cX6_when 20 = .ok (.ifCond .eq 5, 3) := by decide +kernel
theorem dX6_when_23 : decode cX6_when 23 = .ok (.iconst (-1), 1) := by decide +kernel
theorem dX6_when_24 : decode cX6_when 24 = .ok (.ireturn, 1) := by decide +kernel
theorem dX6_when_25 : decode cX6_when 25 = .ok (.iload_n 3, 1) := by decide +kernel
theorem dX6_when_26 : decode cX6_when 26 = .ok (.iconst 0, 1) := by decide +kernel
theorem dX6_when_27 : decode cX6_when 27 = .ok (.iconst 1, 1) := by decide +kernel
theorem dX6_when_28 : decode cX6_when 28 = .ok (.invokestatic 60, 3) := by decide +kernel
theorem dX6_when_31 : decode cX6_when 31 = .ok (.ifCond .ne 6, 3) := by decide +kernel
theorem dX6_when_34 : decode cX6_when 34 = .ok (.bipush (-2), 2) := by decide +kernel
theorem dX6_when_36 : decode cX6_when 36 = .ok (.ireturn, 1) := by decide +kernel
theorem dX6_when_37 : decode cX6_when 37 = .ok (.aload_n 0, 1) := by decide +kernel
theorem dX6_when_38 : decode cX6_when 38 = .ok (.invokevirtual 156, 3) := by decide +kernel
theorem dX6_when_41 : decode cX6_when 41 = .ok (.istore 4, 2) := by decide +kernel
theorem dX6_when_43 : decode cX6_when 43 = .ok (.iload 4, 2) := by decide +kernel
theorem dX6_when_45 : decode cX6_when 45 = .ok (.ifCond .ge 6, 3) := by decide +kernel
theorem dX6_when_48 : decode cX6_when 48 = .ok (.iload 4, 2) := by decide +kernel
theorem dX6_when_50 : decode cX6_when 50 = .ok (.ireturn, 1) := by decide +kernel
theorem dX6_when_51 : decode cX6_when 51 = .ok (.iconst 0, 1) := by decide +kernel
theorem dX6_when_52 : decode cX6_when 52 = .ok (.istore 5, 2) := by decide +kernel
theorem dX6_when_54 : decode cX6_when 54 = .ok (.bipush (-6), 2) := by decide +kernel
theorem dX6_when_56 : decode cX6_when 56 = .ok (.istore 6, 2) := by decide +kernel
theorem dX6_when_58 : decode cX6_when 58 = .ok (.iconst 0, 1) := by decide +kernel
theorem dX6_when_59 : decode cX6_when 59 = .ok (.istore 7, 2) := by decide +kernel
theorem dX6_when_61 : decode cX6_when 61 = .ok (.iload 7, 2) := by decide +kernel
theorem dX6_when_63 : decode cX6_when 63 = .ok (.aload_n 0, 1) := by decide +kernel
theorem dX6_when_64 : decode cX6_when 64 = .ok (.getfield 74, 3) := by decide +kernel
theorem dX6_when_67 : decode cX6_when 67 = .ok (.if_icmp .gt 50, 3) := by decide +kernel
theorem dX6_when_70 : decode cX6_when 70 = .ok (.aload_n 0, 1) := by decide +kernel
theorem dX6_when_71 : decode cX6_when 71 = .ok (.aload_n 0, 1) := by decide +kernel
theorem dX6_when_72 : decode cX6_when 72 = .ok (.getfield 74, 3) := by decide +kernel
theorem dX6_when_75 : decode cX6_when 75 = .ok (.iconst 0, 1) := by decide +kernel
theorem dX6_when_76 : decode cX6_when 76 = .ok (.iload 7, 2) := by decide +kernel
theorem dX6_when_78 : decode cX6_when 78 = .ok (.iload_n 1, 1) := by decide +kernel
theorem dX6_when_79 : decode cX6_when 79 = .ok (.invokevirtual 146, 3) := by decide +kernel
theorem dX6_when_82 : decode cX6_when 82 = .ok (.ifCond .ge 29, 3) := by decide +kernel
theorem dX6_when_85 : decode cX6_when 85 = .ok (.aload_n 0, 1) := by decide +kernel
theorem dX6_when_86 : decode cX6_when 86 = .ok (.iload_n 1, 1) := by decide +kernel
theorem dX6_when_87 : decode cX6_when 87 = .ok (.invokevirtual 87, 3) := by decide +kernel
theorem dX6_when_90 : decode cX6_when 90 = .ok (.iload_n 2, 1) := by decide +kernel
theorem dX6_when_91 : decode cX6_when 91 = .ok (.if_icmp .ne 20, 3) := by decide +kernel
theorem dX6_when_94 : decode cX6_when 94 = .ok (.iload 6, 2) := by decide +kernel
theorem dX6_when_96 : decode cX6_when 96 = .ok (.ifCond .ge 8, 3) := by decide +kernel
theorem dX6_when_99 : decode cX6_when 99 = .ok (.iload 7, 2) := by decide +kernel
theorem dX6_when_101 : decode cX6_when 101 = .ok (.goto 5, 3) := by decide +kernel
theorem dX6_when_104 : decode cX6_when 104 = .ok (.iload 6, 2) := by decide +kernel
theorem dX6_when_106 : decode cX6_when 106 = .ok (.istore 6, 2) := by decide +kernel
theorem dX6_when_108 : decode cX6_when 108 = .ok (.iinc 5 1, 3) := by decide +kernel
theorem dX6_when_111 : decode cX6_when 111 = .ok (.iinc 7 1, 3) := by decide +kernel
theorem dX6_when_114 : decode cX6_when 114 = .ok (.goto (-53), 3) := by decide +kernel
theorem dX6_when_117 : decode cX6_when 117 = .ok (.iload_n 3, 1) := by decide +kernel
theorem dX6_when_118 : decode cX6_when 118 = .ok (.ifCond .ne 8, 3) := by decide +kernel
theorem dX6_when_121 : decode cX6_when 121 = .ok (.iload 5, 2) := by decide +kernel
theorem dX6_when_123 : decode cX6_when 123 = .ok (.goto 5, 3) := by decide +kernel
theorem dX6_when_126 : decode cX6_when 126 = .ok (.iload 6, 2) := by decide +kernel
theorem dX6_when_128 : decode cX6_when 128 = .ok (.ireturn, 1) := by decide +kernel
theorem dX6_best_0 : decode cX6_best 0 = .ok (.iload_n 1, 1) := by decide +kernel
theorem dX6_best_1 : decode cX6_best 1 = .ok (.invokestatic 67, 3) := by decide +kernel
theorem dX6_best_4 : decode cX6_best 4 = .ok (.ifCond .eq 11, 3) := by decide +kernel
theorem dX6_best_7 : decode cX6_best 7 = .ok (.aload_n 0, 1) := by decide +kernel
theorem dX6_best_8 : decode cX6_best 8 = .ok (.iload_n 1, 1) := by decide +kernel
theorem dX6_best_9 : decode cX6_best 9 = .ok (.invokevirtual 153, 3) := by decide +kernel
theorem dX6_best_12 : decode cX6_best 12 = .ok (.ifCond .eq 5, 3) := by decide +kernel
theorem dX6_best_15 : decode cX6_best 15 = .ok (.iconst (-1), 1) := by decide +kernel
theorem dX6_best_16 : decode cX6_best 16 = .ok (.ireturn, 1) := by decide +kernel
theorem dX6_best_17 : decode cX6_best 17 = .ok (.iload_n 2, 1) := by decide +kernel
theorem dX6_best_18 : decode cX6_best 18 = .ok (.iconst 0, 1) := by decide +kernel
theorem dX6_best_19 : decode cX6_best 19 = .ok (.iconst 1, 1) := by decide +kernel
theorem dX6_best_20 : decode cX6_best 20 = .ok (.invokestatic 60, 3) := by decide +kernel
theorem dX6_best_23 : decode cX6_best 23 = .ok (.ifCond .ne 6, 3) := by decide +kernel
theorem dX6_best_26 : decode cX6_best 26 = .ok (.bipush (-2), 2) := by decide +kernel
theorem dX6_best_28 : decode cX6_best 28 = .ok (.ireturn, 1) := by decide +kernel
theorem dX6_best_29 : decode cX6_best 29 = .ok (.aload_n 0, 1) := by decide +kernel
theorem dX6_best_30 : decode cX6_best 30 = .ok (.invokevirtual 156, 3) := by decide +kernel
theorem dX6_best_33 : decode cX6_best 33 = .ok (.istore_n 3, 1) := by decide +kernel
theorem dX6_best_34 : decode cX6_best 34 = .ok (.iload_n 3, 1) := by decide +kernel
theorem dX6_best_35 : decode cX6_best 35 = .ok (.ifCond .ge 5, 3) := by decide +kernel
theorem dX6_best_38 : decode cX6_best 38 = .ok (.iload_n 3, 1) := by decide +kernel
theorem dX6_best_39 : decode cX6_best 39 = .ok (.ireturn, 1) := by decide +kernel
theorem dX6_best_40 : decode cX6_best 40 = .ok (.bipush (-6), 2) := by decide +kernel
theorem dX6_best_42 : decode cX6_best 42 = .ok (.istore 4, 2) := by decide +kernel
theorem dX6_best_44 : decode cX6_best 44 = .ok (.bipush (-2), 2) := by decide +kernel
theorem dX6_best_46 : decode cX6_best 46 = .ok (.istore 5, 2) := by decide +kernel
theorem dX6_best_48 : decode cX6_best 48 = .ok (.iconst 0, 1) := by decide +kernel
theorem dX6_best_49 : decode cX6_best 49 = .ok (.istore 6, 2) := by decide +kernel
theorem dX6_best_51 : decode cX6_best 51 = .ok (.iload 6, 2) := by decide +kernel
theorem dX6_best_53 : decode cX6_best 53 = .ok (.aload_n 0, 1) := by decide +kernel
theorem dX6_best_54 : decode cX6_best 54 = .ok (.getfield 74, 3) := by decide +kernel
theorem dX6_best_57 : decode cX6_best 57 = .ok (.if_icmp .gt 90, 3) := by decide +kernel
theorem dX6_best_60 : decode cX6_best 60 = .ok (.aload_n 0, 1) := by decide +kernel
theorem dX6_best_61 : decode cX6_best 61 = .ok (.aload_n 0, 1) := by decide +kernel
theorem dX6_best_62 : decode cX6_best 62 = .ok (.getfield 74, 3) := by decide +kernel
theorem dX6_best_65 : decode cX6_best 65 = .ok (.iconst 0, 1) := by decide +kernel
theorem dX6_best_66 : decode cX6_best 66 = .ok (.iload 6, 2) := by decide +kernel
theorem dX6_best_68 : decode cX6_best 68 = .ok (.iload_n 1, 1) := by decide +kernel
theorem dX6_best_69 : decode cX6_best 69 = .ok (.invokevirtual 146, 3) := by decide +kernel
theorem dX6_best_72 : decode cX6_best 72 = .ok (.istore 7, 2) := by decide +kernel
theorem dX6_best_74 : decode cX6_best 74 = .ok (.aload_n 0, 1) := by decide +kernel
theorem dX6_best_75 : decode cX6_best 75 = .ok (.iload_n 1, 1) := by decide +kernel
theorem dX6_best_76 : decode cX6_best 76 = .ok (.invokevirtual 87, 3) := by decide +kernel
theorem dX6_best_79 : decode cX6_best 79 = .ok (.istore 8, 2) := by decide +kernel
theorem dX6_best_81 : decode cX6_best 81 = .ok (.iload 7, 2) := by decide +kernel
theorem dX6_best_83 : decode cX6_best 83 = .ok (.ifCond .ge 8, 3) := by decide +kernel
theorem dX6_best_86 : decode cX6_best 86 = .ok (.iload 8, 2) := by decide +kernel
theorem dX6_best_88 : decode cX6_best 88 = .ok (.ifCond .ge 7, 3) := by decide +kernel
theorem dX6_best_91 : decode cX6_best 91 = .ok (.iconst (-1), 1) := by decide +kernel
theorem dX6_best_92 : decode cX6_best 92 = .ok (.goto 15, 3) := by decide +kernel
theorem dX6_best_95 : decode cX6_best 95 = .ok (.aload_n 0, 1) := by decide +kernel
theorem dX6_best_96 : decode cX6_best 96 = .ok (.getfield 13, 3) := by decide +kernel
theorem dX6_best_99 : decode cX6_best 99 = .ok (.bipush 8, 2) := by decide +kernel
theorem dX6_best_101 : decode cX6_best 101 = .ok (.iload_n 1, 1) := by decide +kernel
theorem dX6_best_102 : decode cX6_best 102 = .ok (.imul, 1) := by decide +kernel
theorem dX6_best_103 : decode cX6_best 103 = .ok (.iload 8, 2) := by decide +kernel
theorem dX6_best_105 : decode cX6_best 105 = .ok (.iadd, 1) := by decide +kernel
theorem dX6_best_106 : decode cX6_best 106 = .ok (.iaload, 1) := by decide +kernel
theorem dX6_best_107 : decode cX6_best 107 = .ok (.istore 9, 2) := by decide +kernel
theorem dX6_best_109 : decode cX6_best 109 = .ok (.iload 9, 2) := by decide +kernel
theorem dX6_best_111 : decode cX6_best 111 = .ok (.iload 5, 2) := by decide +kernel
theorem dX6_best_113 : decode cX6_best 113 = .ok (.if_icmp .le 8, 3) := by decide +kernel
theorem dX6_best_116 : decode cX6_best 116 = .ok (.iload 6, 2) := by decide +kernel
theorem dX6_best_118 : decode cX6_best 118 = .ok (.goto 5, 3) := by decide +kernel
theorem dX6_best_121 : decode cX6_best 121 = .ok (.iload 4, 2) := by decide +kernel
theorem dX6_best_123 : decode cX6_best 123 = .ok (.istore 4, 2) := by decide +kernel
theorem dX6_best_125 : decode cX6_best 125 = .ok (.iload 9, 2) := by decide +kernel
theorem dX6_best_127 : decode cX6_best 127 = .ok (.iload 5, 2) := by decide +kernel
theorem dX6_best_129 : decode cX6_best 129 = .ok (.if_icmp .le 8, 3) := by decide +kernel
theorem dX6_best_132 : decode cX6_best 132 = .ok (.iload 9, 2) := by decide +kernel
theorem dX6_best_134 : decode cX6_best 134 = .ok (.goto 5, 3) := by decide +kernel
theorem dX6_best_137 : decode cX6_best 137 = .ok (.iload 5, 2) := by decide +kernel
theorem dX6_best_139 : decode cX6_best 139 = .ok (.istore 5, 2) := by decide +kernel
theorem dX6_best_141 : decode cX6_best 141 = .ok (.iinc 6 1, 3) := by decide +kernel
theorem dX6_best_144 : decode cX6_best 144 = .ok (.goto (-93), 3) := by decide +kernel
theorem dX6_best_147 : decode cX6_best 147 = .ok (.iload_n 2, 1) := by decide +kernel
theorem dX6_best_148 : decode cX6_best 148 = .ok (.ifCond .ne 8, 3) := by decide +kernel
theorem dX6_best_151 : decode cX6_best 151 = .ok (.iload 4, 2) := by decide +kernel
theorem dX6_best_153 : decode cX6_best 153 = .ok (.goto 5, 3) := by decide +kernel
theorem dX6_best_156 : decode cX6_best 156 = .ok (.iload 5, 2) := by decide +kernel
theorem dX6_best_158 : decode cX6_best 158 = .ok (.ireturn, 1) := by decide +kernel
theorem dX6_reach_0 : decode cX6_reach 0 = .ok (.aload_n 0, 1) := by decide +kernel
theorem dX6_reach_1 : decode cX6_reach 1 = .ok (.iload_n 1, 1) := by decide +kernel
theorem dX6_reach_2 : decode cX6_reach 2 = .ok (.invokevirtual 71, 3) := by decide +kernel
theorem dX6_reach_5 : decode cX6_reach 5 = .ok (.ifCond .ne 5, 3) := by decide +kernel
theorem dX6_reach_8 : decode cX6_reach 8 = .ok (.iconst (-1), 1) := by decide +kernel
theorem dX6_reach_9 : decode cX6_reach 9 = .ok (.ireturn, 1) := by decide +kernel
theorem dX6_reach_10 : decode cX6_reach 10 = .ok (.aload_n 0, 1) := by decide +kernel
theorem dX6_reach_11 : decode cX6_reach 11 = .ok (.aload_n 0, 1) := by decide +kernel
theorem dX6_reach_12 : decode cX6_reach 12 = .ok (.getfield 74, 3) := by decide +kernel
theorem dX6_reach_15 : decode cX6_reach 15 = .ok (.invokevirtual 150, 3) := by decide +kernel
theorem dX6_reach_18 : decode cX6_reach 18 = .ok (.istore_n 2, 1) := by decide +kernel
theorem dX6_reach_19 : decode cX6_reach 19 = .ok (.iload_n 2, 1) := by decide +kernel
theorem dX6_reach_20 : decode cX6_reach 20 = .ok (.ifCond .ge 5, 3) := by decide +kernel
theorem dX6_reach_23 : decode cX6_reach 23 = .ok (.iload_n 2, 1) := by decide +kernel
theorem dX6_reach_24 : decode cX6_reach 24 = .ok (.ireturn, 1) := by decide +kernel
theorem dX6_reach_25 : decode cX6_reach 25 = .ok (.iconst 0, 1) := by decide +kernel
theorem dX6_reach_26 : decode cX6_reach 26 = .ok (.istore_n 3, 1) := by decide +kernel
theorem dX6_reach_27 : decode cX6_reach 27 = .ok (.aload_n 0, 1) := by decide +kernel
theorem dX6_reach_28 : decode cX6_reach 28 = .ok (.getfield 23, 3) := by decide +kernel
theorem dX6_reach_31 : decode cX6_reach 31 = .ok (.iload_n 1, 1) := by decide +kernel
theorem dX6_reach_32 : decode cX6_reach 32 = .ok (.iaload, 1) := by decide +kernel
theorem dX6_reach_33 : decode cX6_reach 33 = .ok (.ifCond .ge 17, 3) := by decide +kernel
theorem dX6_reach_36 : decode cX6_reach 36 = .ok (.aload_n 0, 1) := by decide +kernel
theorem dX6_reach_37 : decode cX6_reach 37 = .ok (.bipush 8, 2) := by decide +kernel
theorem dX6_reach_39 : decode cX6_reach 39 = .ok (.iload_n 3, 1) := by decide +kernel
theorem dX6_reach_40 : decode cX6_reach 40 = .ok (.iadd, 1) := by decide +kernel
theorem dX6_reach_41 : decode cX6_reach 41 = .ok (.invokevirtual 125, 3) := by decide +kernel
theorem dX6_reach_44 : decode cX6_reach 44 = .ok (.iinc 3 1, 3) := by decide +kernel
theorem dX6_reach_47 : decode cX6_reach 47 = .ok (.goto (-20), 3) := by decide +kernel
theorem dX6_reach_50 : decode cX6_reach 50 = .ok (.iload_n 3, 1) := by decide +kernel
theorem dX6_reach_51 : decode cX6_reach 51 = .ok (.ireturn, 1) := by decide +kernel
theorem dX6_nextRow_0 : decode cX6_nextRow 0 = .ok (.iload_n 1, 1) := by decide +kernel
theorem dX6_nextRow_1 : decode cX6_nextRow 1 = .ok (.iconst 2, 1) := by decide +kernel
theorem dX6_nextRow_2 : decode cX6_nextRow 2 = .ok (.isub, 1) := by decide +kernel
theorem dX6_nextRow_3 : decode cX6_nextRow 3 = .ok (.istore_n 2, 1) := by decide +kernel
theorem dX6_nextRow_4 : decode cX6_nextRow 4 = .ok (.iload_n 2, 1) := by decide +kernel
theorem dX6_nextRow_5 : decode cX6_nextRow 5 = .ok (.ifCond .lt 26, 3) := by decide +kernel
theorem dX6_nextRow_8 : decode cX6_nextRow 8 = .ok (.aload_n 0, 1) := by decide +kernel
theorem dX6_nextRow_9 : decode cX6_nextRow 9 = .ok (.getfield 44, 3) := by decide +kernel
theorem dX6_nextRow_12 : decode cX6_nextRow 12 = .ok (.iload_n 2, 1) := by decide +kernel
theorem dX6_nextRow_13 : decode cX6_nextRow 13 = .ok (.iaload, 1) := by decide +kernel
theorem dX6_nextRow_14 : decode cX6_nextRow 14 = .ok (.aload_n 0, 1) := by decide +kernel
theorem dX6_nextRow_15 : decode cX6_nextRow 15 = .ok (.getfield 44, 3) := by decide +kernel
theorem dX6_nextRow_18 : decode cX6_nextRow 18 = .ok (.iload_n 2, 1) := by decide +kernel
theorem dX6_nextRow_19 : decode cX6_nextRow 19 = .ok (.iconst 1, 1) := by decide +kernel
theorem dX6_nextRow_20 : decode cX6_nextRow 20 = .ok (.iadd, 1) := by decide +kernel
theorem dX6_nextRow_21 : decode cX6_nextRow 21 = .ok (.iaload, 1) := by decide +kernel
theorem dX6_nextRow_22 : decode cX6_nextRow 22 = .ok (.if_icmp .le 9, 3) := by decide +kernel
theorem dX6_nextRow_25 : decode cX6_nextRow 25 = .ok (.iinc 2 (-1), 3) := by decide +kernel
theorem dX6_nextRow_28 : decode cX6_nextRow 28 = .ok (.goto (-24), 3) := by decide +kernel
theorem dX6_nextRow_31 : decode cX6_nextRow 31 = .ok (.iload_n 2, 1) := by decide +kernel
theorem dX6_nextRow_32 : decode cX6_nextRow 32 = .ok (.ifCond .ge 5, 3) := by decide +kernel
theorem dX6_nextRow_35 : decode cX6_nextRow 35 = .ok (.iconst 0, 1) := by decide +kernel
theorem dX6_nextRow_36 : decode cX6_nextRow 36 = .ok (.ireturn, 1) := by decide +kernel
theorem dX6_nextRow_37 : decode cX6_nextRow 37 = .ok (.iload_n 1, 1) := by decide +kernel
theorem dX6_nextRow_38 : decode cX6_nextRow 38 = .ok (.iconst 1, 1) := by decide +kernel
theorem dX6_nextRow_39 : decode cX6_nextRow 39 = .ok (.isub, 1) := by decide +kernel
theorem dX6_nextRow_40 : decode cX6_nextRow 40 = .ok (.istore_n 3, 1) := by decide +kernel
theorem dX6_nextRow_41 : decode cX6_nextRow 41 = .ok (.aload_n 0, 1) := by decide +kernel
theorem dX6_nextRow_42 : decode cX6_nextRow 42 = .ok (.getfield 44, 3) := by decide +kernel
theorem dX6_nextRow_45 : decode cX6_nextRow 45 = .ok (.iload_n 3, 1) := by decide +kernel
theorem dX6_nextRow_46 : decode cX6_nextRow 46 = .ok (.iaload, 1) := by decide +kernel
theorem dX6_nextRow_47 : decode cX6_nextRow 47 = .ok (.aload_n 0, 1) := by decide +kernel
theorem dX6_nextRow_48 : decode cX6_nextRow 48 = .ok (.getfield 44, 3) := by decide +kernel
theorem dX6_nextRow_51 : decode cX6_nextRow 51 = .ok (.iload_n 2, 1) := by decide +kernel
theorem dX6_nextRow_52 : decode cX6_nextRow 52 = .ok (.iaload, 1) := by decide +kernel
theorem dX6_nextRow_53 : decode cX6_nextRow 53 = .ok (.if_icmp .ge 9, 3) := by decide +kernel
theorem dX6_nextRow_56 : decode cX6_nextRow 56 = .ok (.iinc 3 (-1), 3) := by decide +kernel
theorem dX6_nextRow_59 : decode cX6_nextRow 59 = .ok (.goto (-18), 3) := by decide +kernel
theorem dX6_nextRow_62 : decode cX6_nextRow 62 = .ok (.aload_n 0, 1) := by decide +kernel
theorem dX6_nextRow_63 : decode cX6_nextRow 63 = .ok (.iload_n 2, 1) := by decide +kernel
theorem dX6_nextRow_64 : decode cX6_nextRow 64 = .ok (.iload_n 3, 1) := by decide +kernel
theorem dX6_nextRow_65 : decode cX6_nextRow 65 = .ok (.invokevirtual 159, 3) := by decide +kernel
theorem dX6_nextRow_68 : decode cX6_nextRow 68 = .ok (.iload_n 2, 1) := by decide +kernel
theorem dX6_nextRow_69 : decode cX6_nextRow 69 = .ok (.iconst 1, 1) := by decide +kernel
theorem dX6_nextRow_70 : decode cX6_nextRow 70 = .ok (.iadd, 1) := by decide +kernel
theorem dX6_nextRow_71 : decode cX6_nextRow 71 = .ok (.istore 4, 2) := by decide +kernel
theorem dX6_nextRow_73 : decode cX6_nextRow 73 = .ok (.iload_n 1, 1) := by decide +kernel
theorem dX6_nextRow_74 : decode cX6_nextRow 74 = .ok (.iconst 1, 1) := by decide +kernel
theorem dX6_nextRow_75 : decode cX6_nextRow 75 = .ok (.isub, 1) := by decide +kernel
theorem dX6_nextRow_76 : decode cX6_nextRow 76 = .ok (.istore 5, 2) := by decide +kernel
theorem dX6_nextRow_78 : decode cX6_nextRow 78 = .ok (.iload 4, 2) := by decide +kernel
theorem dX6_nextRow_80 : decode cX6_nextRow 80 = .ok (.iload 5, 2) := by decide +kernel
theorem dX6_nextRow_82 : decode cX6_nextRow 82 = .ok (.if_icmp .ge 20, 3) := by decide +kernel
theorem dX6_nextRow_85 : decode cX6_nextRow 85 = .ok (.aload_n 0, 1) := by decide +kernel
theorem dX6_nextRow_86 : decode cX6_nextRow 86 = .ok (.iload 4, 2) := by decide +kernel
theorem dX6_nextRow_88 : decode cX6_nextRow 88 = .ok (.iload 5, 2) := by decide +kernel
theorem dX6_nextRow_90 : decode cX6_nextRow 90 = .ok (.invokevirtual 159, 3) := by decide +kernel
theorem dX6_nextRow_93 : decode cX6_nextRow 93 = .ok (.iinc 4 1, 3) := by decide +kernel
theorem dX6_nextRow_96 : decode cX6_nextRow 96 = .ok (.iinc 5 (-1), 3) := by decide +kernel
theorem dX6_nextRow_99 : decode cX6_nextRow 99 = .ok (.goto (-21), 3) := by decide +kernel
theorem dX6_nextRow_102 : decode cX6_nextRow 102 = .ok (.iconst 1, 1) := by decide +kernel
theorem dX6_nextRow_103 : decode cX6_nextRow 103 = .ok (.ireturn, 1) := by decide +kernel
theorem dX6_change_0 : decode cX6_change 0 = .ok (.aload_n 0, 1) := by decide +kernel
theorem dX6_change_1 : decode cX6_change 1 = .ok (.getfield 44, 3) := by decide +kernel
theorem dX6_change_4 : decode cX6_change 4 = .ok (.iload_n 1, 1) := by decide +kernel
theorem dX6_change_5 : decode cX6_change 5 = .ok (.iaload, 1) := by decide +kernel
theorem dX6_change_6 : decode cX6_change 6 = .ok (.istore_n 3, 1) := by decide +kernel
theorem dX6_change_7 : decode cX6_change 7 = .ok (.aload_n 0, 1) := by decide +kernel
theorem dX6_change_8 : decode cX6_change 8 = .ok (.getfield 44, 3) := by decide +kernel
theorem dX6_change_11 : decode cX6_change 11 = .ok (.iload_n 1, 1) := by decide +kernel
theorem dX6_change_12 : decode cX6_change 12 = .ok (.aload_n 0, 1) := by decide +kernel
theorem dX6_change_13 : decode cX6_change 13 = .ok (.getfield 44, 3) := by decide +kernel
theorem dX6_change_16 : decode cX6_change 16 = .ok (.iload_n 2, 1) := by decide +kernel
theorem dX6_change_17 : decode cX6_change 17 = .ok (.iaload, 1) := by decide +kernel
theorem dX6_change_18 : decode cX6_change 18 = .ok (.iastore, 1) := by decide +kernel
theorem dX6_change_19 : decode cX6_change 19 = .ok (.aload_n 0, 1) := by decide +kernel
theorem dX6_change_20 : decode cX6_change 20 = .ok (.getfield 44, 3) := by decide +kernel
theorem dX6_change_23 : decode cX6_change 23 = .ok (.iload_n 2, 1) := by decide +kernel
theorem dX6_change_24 : decode cX6_change 24 = .ok (.iload_n 3, 1) := by decide +kernel
theorem dX6_change_25 : decode cX6_change 25 = .ok (.iastore, 1) := by decide +kernel
theorem dX6_change_26 : decode cX6_change 26 = .ok (.return_, 1) := by decide +kernel
theorem dX6_party_0 : decode cX6_party 0 = .ok (.iload_n 1, 1) := by decide +kernel
theorem dX6_party_1 : decode cX6_party 1 = .ok (.iconst 1, 1) := by decide +kernel
theorem dX6_party_2 : decode cX6_party 2 = .ok (.sipush 255, 3) := by decide +kernel
theorem dX6_party_5 : decode cX6_party 5 = .ok (.invokestatic 60, 3) := by decide +kernel
theorem dX6_party_8 : decode cX6_party 8 = .ok (.ifCond .ne 6, 3) := by decide +kernel
theorem dX6_party_11 : decode cX6_party 11 = .ok (.bipush (-2), 2) := by decide +kernel
theorem dX6_party_13 : decode cX6_party 13 = .ok (.ireturn, 1) := by decide +kernel
theorem dX6_party_14 : decode cX6_party 14 = .ok (.aload_n 0, 1) := by decide +kernel
theorem dX6_party_15 : decode cX6_party 15 = .ok (.aload_n 0, 1) := by decide +kernel
theorem dX6_party_16 : decode cX6_party 16 = .ok (.getfield 74, 3) := by decide +kernel
theorem dX6_party_19 : decode cX6_party 19 = .ok (.invokevirtual 150, 3) := by decide +kernel
theorem dX6_party_22 : decode cX6_party 22 = .ok (.istore_n 3, 1) := by decide +kernel
theorem dX6_party_23 : decode cX6_party 23 = .ok (.iload_n 3, 1) := by decide +kernel
theorem dX6_party_24 : decode cX6_party 24 = .ok (.ifCond .ge 5, 3) := by decide +kernel
theorem dX6_party_27 : decode cX6_party 27 = .ok (.iload_n 3, 1) := by decide +kernel
theorem dX6_party_28 : decode cX6_party 28 = .ok (.ireturn, 1) := by decide +kernel
theorem dX6_party_29 : decode cX6_party 29 = .ok (.iconst 0, 1) := by decide +kernel
theorem dX6_party_30 : decode cX6_party 30 = .ok (.istore 4, 2) := by decide +kernel
theorem dX6_party_32 : decode cX6_party 32 = .ok (.iconst 0, 1) := by decide +kernel
theorem dX6_party_33 : decode cX6_party 33 = .ok (.istore 5, 2) := by decide +kernel
theorem dX6_party_35 : decode cX6_party 35 = .ok (.iconst 0, 1) := by decide +kernel
theorem dX6_party_36 : decode cX6_party 36 = .ok (.istore 6, 2) := by decide +kernel
theorem dX6_party_38 : decode cX6_party 38 = .ok (.iload 6, 2) := by decide +kernel
theorem dX6_party_40 : decode cX6_party 40 = .ok (.bipush 8, 2) := by decide +kernel
theorem dX6_party_42 : decode cX6_party 42 = .ok (.if_icmp .ge 51, 3) := by decide +kernel
theorem dX6_party_45 : decode cX6_party 45 = .ok (.iload_n 1, 1) := by decide +kernel
theorem dX6_party_46 : decode cX6_party 46 = .ok (.iload 6, 2) := by decide +kernel
theorem dX6_party_48 : decode cX6_party 48 = .ok (.invokestatic 112, 3) := by decide +kernel
theorem dX6_party_51 : decode cX6_party 51 = .ok (.ifCond .eq 36, 3) := by decide +kernel
theorem dX6_party_54 : decode cX6_party 54 = .ok (.iload 5, 2) := by decide +kernel
theorem dX6_party_56 : decode cX6_party 56 = .ok (.ifCond .ne 12, 3) := by decide +kernel
theorem dX6_party_59 : decode cX6_party 59 = .ok (.aload_n 0, 1) := by decide +kernel
theorem dX6_party_60 : decode cX6_party 60 = .ok (.iload 6, 2) := by decide +kernel
theorem dX6_party_62 : decode cX6_party 62 = .ok (.invokevirtual 122, 3) := by decide +kernel
theorem dX6_party_65 : decode cX6_party 65 = .ok (.ifCond .eq 7, 3) := by decide +kernel
theorem dX6_party_68 : decode cX6_party 68 = .ok (.iconst 1, 1) := by decide +kernel
theorem dX6_party_69 : decode cX6_party 69 = .ok (.goto 4, 3) := by decide +kernel
theorem dX6_party_72 : decode cX6_party 72 = .ok (.iconst 0, 1) := by decide +kernel
theorem dX6_party_73 : decode cX6_party 73 = .ok (.istore 5, 2) := by decide +kernel
theorem dX6_party_75 : decode cX6_party 75 = .ok (.aload_n 0, 1) := by decide +kernel
theorem dX6_party_76 : decode cX6_party 76 = .ok (.getfield 44, 3) := by decide +kernel
theorem dX6_party_79 : decode cX6_party 79 = .ok (.iload 4, 2) := by decide +kernel
theorem dX6_party_81 : decode cX6_party 81 = .ok (.iload 6, 2) := by decide +kernel
theorem dX6_party_83 : decode cX6_party 83 = .ok (.iastore, 1) := by decide +kernel
theorem dX6_party_84 : decode cX6_party 84 = .ok (.iinc 4 1, 3) := by decide +kernel
theorem dX6_party_87 : decode cX6_party 87 = .ok (.iinc 6 1, 3) := by decide +kernel
theorem dX6_party_90 : decode cX6_party 90 = .ok (.goto (-52), 3) := by decide +kernel
theorem dX6_party_93 : decode cX6_party 93 = .ok (.iload 5, 2) := by decide +kernel
theorem dX6_party_95 : decode cX6_party 95 = .ok (.ifCond .ne 10, 3) := by decide +kernel
theorem dX6_party_98 : decode cX6_party 98 = .ok (.iload 4, 2) := by decide +kernel
theorem dX6_party_100 : decode cX6_party 100 = .ok (.bipush 6, 2) := by decide +kernel
theorem dX6_party_102 : decode cX6_party 102 = .ok (.if_icmp .le 16, 3) := by decide +kernel
theorem dX6_party_105 : decode cX6_party 105 = .ok (.iload 5, 2) := by decide +kernel
theorem dX6_party_107 : decode cX6_party 107 = .ok (.ifCond .eq 8, 3) := by decide +kernel
theorem dX6_party_110 : decode cX6_party 110 = .ok (.bipush (-5), 2) := by decide +kernel
theorem dX6_party_112 : decode cX6_party 112 = .ok (.goto 5, 3) := by decide +kernel
theorem dX6_party_115 : decode cX6_party 115 = .ok (.bipush (-4), 2) := by decide +kernel
theorem dX6_party_117 : decode cX6_party 117 = .ok (.ireturn, 1) := by decide +kernel
theorem dX6_party_118 : decode cX6_party 118 = .ok (.bipush (-6), 2) := by decide +kernel
theorem dX6_party_120 : decode cX6_party 120 = .ok (.istore 6, 2) := by decide +kernel
theorem dX6_party_122 : decode cX6_party 122 = .ok (.iconst 1, 1) := by decide +kernel
theorem dX6_party_123 : decode cX6_party 123 = .ok (.istore 7, 2) := by decide +kernel
theorem dX6_party_125 : decode cX6_party 125 = .ok (.iload 7, 2) := by decide +kernel
theorem dX6_party_127 : decode cX6_party 127 = .ok (.ifCond .eq 182, 3) := by decide +kernel
theorem dX6_party_130 : decode cX6_party 130 = .ok (.aload_n 0, 1) := by decide +kernel
theorem dX6_party_131 : decode cX6_party 131 = .ok (.aload_n 0, 1) := by decide +kernel
theorem dX6_party_132 : decode cX6_party 132 = .ok (.getfield 74, 3) := by decide +kernel
theorem dX6_party_135 : decode cX6_party 135 = .ok (.iconst 0, 1) := by decide +kernel
theorem dX6_party_136 : decode cX6_party 136 = .ok (.bipush (-6), 2) := by decide +kernel
theorem dX6_party_138 : decode cX6_party 138 = .ok (.iconst 0, 1) := by decide +kernel
theorem dX6_party_139 : decode cX6_party 139 = .ok (.invokevirtual 146, 3) := by decide +kernel
theorem dX6_party_142 : decode cX6_party 142 = .ok (.istore 8, 2) := by decide +kernel
theorem dX6_party_144 : decode cX6_party 144 = .ok (.iconst 0, 1) := by decide +kernel
theorem dX6_party_145 : decode cX6_party 145 = .ok (.istore 9, 2) := by decide +kernel
theorem dX6_party_147 : decode cX6_party 147 = .ok (.iload 9, 2) := by decide +kernel
theorem dX6_party_149 : decode cX6_party 149 = .ok (.iload 4, 2) := by decide +kernel
theorem dX6_party_151 : decode cX6_party 151 = .ok (.if_icmp .ge 20, 3) := by decide +kernel
theorem dX6_party_154 : decode cX6_party 154 = .ok (.aload_n 0, 1) := by decide +kernel
theorem dX6_party_155 : decode cX6_party 155 = .ok (.aload_n 0, 1) := by decide +kernel
theorem dX6_party_156 : decode cX6_party 156 = .ok (.getfield 44, 3) := by decide +kernel
theorem dX6_party_159 : decode cX6_party 159 = .ok (.iload 9, 2) := by decide +kernel
theorem dX6_party_161 : decode cX6_party 161 = .ok (.iaload, 1) := by decide +kernel
theorem dX6_party_162 : decode cX6_party 162 = .ok (.invokevirtual 125, 3) := by decide +kernel
theorem dX6_party_165 : decode cX6_party 165 = .ok (.iinc 9 1, 3) := by decide +kernel
theorem dX6_party_168 : decode cX6_party 168 = .ok (.goto (-21), 3) := by decide +kernel
theorem dX6_party_171 : decode cX6_party 171 = .ok (.iload 8, 2) := by decide +kernel
theorem dX6_party_173 : decode cX6_party 173 = .ok (.ifCond .ge 7, 3) := by decide +kernel
theorem dX6_party_176 : decode cX6_party 176 = .ok (.iconst 0, 1) := by decide +kernel
theorem dX6_party_177 : decode cX6_party 177 = .ok (.goto 5, 3) := by decide +kernel
theorem dX6_party_180 : decode cX6_party 180 = .ok (.bipush (-6), 2) := by decide +kernel
theorem dX6_party_182 : decode cX6_party 182 = .ok (.istore 9, 2) := by decide +kernel
theorem dX6_party_184 : decode cX6_party 184 = .ok (.iconst 0, 1) := by decide +kernel
theorem dX6_party_185 : decode cX6_party 185 = .ok (.istore 10, 2) := by decide +kernel
theorem dX6_party_187 : decode cX6_party 187 = .ok (.iload 10, 2) := by decide +kernel
theorem dX6_party_189 : decode cX6_party 189 = .ok (.iload 4, 2) := by decide +kernel
theorem dX6_party_191 : decode cX6_party 191 = .ok (.if_icmp .ge 54, 3) := by decide +kernel
theorem dX6_party_194 : decode cX6_party 194 = .ok (.aload_n 0, 1) := by decide +kernel
theorem dX6_party_195 : decode cX6_party 195 = .ok (.aload_n 0, 1) := by decide +kernel
theorem dX6_party_196 : decode cX6_party 196 = .ok (.getfield 44, 3) := by decide +kernel
theorem dX6_party_199 : decode cX6_party 199 = .ok (.iload 10, 2) := by decide +kernel
theorem dX6_party_201 : decode cX6_party 201 = .ok (.iaload, 1) := by decide +kernel
theorem dX6_party_202 : decode cX6_party 202 = .ok (.invokevirtual 87, 3) := by decide +kernel
theorem dX6_party_205 : decode cX6_party 205 = .ok (.istore 11, 2) := by decide +kernel
theorem dX6_party_207 : decode cX6_party 207 = .ok (.iload 9, 2) := by decide +kernel
theorem dX6_party_209 : decode cX6_party 209 = .ok (.iload 11, 2) := by decide +kernel
theorem dX6_party_211 : decode cX6_party 211 = .ok (.ifCond .ge 7, 3) := by decide +kernel
theorem dX6_party_214 : decode cX6_party 214 = .ok (.iconst 0, 1) := by decide +kernel
theorem dX6_party_215 : decode cX6_party 215 = .ok (.goto 21, 3) := by decide +kernel
theorem dX6_party_218 : decode cX6_party 218 = .ok (.aload_n 0, 1) := by decide +kernel
theorem dX6_party_219 : decode cX6_party 219 = .ok (.getfield 13, 3) := by decide +kernel
theorem dX6_party_222 : decode cX6_party 222 = .ok (.bipush 8, 2) := by decide +kernel
theorem dX6_party_224 : decode cX6_party 224 = .ok (.aload_n 0, 1) := by decide +kernel
theorem dX6_party_225 : decode cX6_party 225 = .ok (.getfield 44, 3) := by decide +kernel
theorem dX6_party_228 : decode cX6_party 228 = .ok (.iload 10, 2) := by decide +kernel
theorem dX6_party_230 : decode cX6_party 230 = .ok (.iaload, 1) := by decide +kernel
theorem dX6_party_231 : decode cX6_party 231 = .ok (.imul, 1) := by decide +kernel
theorem dX6_party_232 : decode cX6_party 232 = .ok (.iload 11, 2) := by decide +kernel
theorem dX6_party_234 : decode cX6_party 234 = .ok (.iadd, 1) := by decide +kernel
theorem dX6_party_235 : decode cX6_party 235 = .ok (.iaload, 1) := by decide +kernel
theorem dX6_party_236 : decode cX6_party 236 = .ok (.iadd, 1) := by decide +kernel
theorem dX6_party_237 : decode cX6_party 237 = .ok (.istore 9, 2) := by decide +kernel
theorem dX6_party_239 : decode cX6_party 239 = .ok (.iinc 10 1, 3) := by decide +kernel
theorem dX6_party_242 : decode cX6_party 242 = .ok (.goto (-55), 3) := by decide +kernel
theorem dX6_party_245 : decode cX6_party 245 = .ok (.iconst 0, 1) := by decide +kernel
theorem dX6_party_246 : decode cX6_party 246 = .ok (.istore 10, 2) := by decide +kernel
theorem dX6_party_248 : decode cX6_party 248 = .ok (.iload 10, 2) := by decide +kernel
theorem dX6_party_250 : decode cX6_party 250 = .ok (.iload 4, 2) := by decide +kernel
theorem dX6_party_252 : decode cX6_party 252 = .ok (.if_icmp .ge 30, 3) := by decide +kernel
theorem dX6_party_255 : decode cX6_party 255 = .ok (.iload 9, 2) := by decide +kernel
theorem dX6_party_257 : decode cX6_party 257 = .ok (.iload 6, 2) := by decide +kernel
theorem dX6_party_259 : decode cX6_party 259 = .ok (.if_icmp .le 23, 3) := by decide +kernel
theorem dX6_party_262 : decode cX6_party 262 = .ok (.aload_n 0, 1) := by decide +kernel
theorem dX6_party_263 : decode cX6_party 263 = .ok (.getfield 47, 3) := by decide +kernel
theorem dX6_party_266 : decode cX6_party 266 = .ok (.iload 10, 2) := by decide +kernel
theorem dX6_party_268 : decode cX6_party 268 = .ok (.aload_n 0, 1) := by decide +kernel
theorem dX6_party_269 : decode cX6_party 269 = .ok (.getfield 44, 3) := by decide +kernel
theorem dX6_party_272 : decode cX6_party 272 = .ok (.iload 10, 2) := by decide +kernel
theorem dX6_party_274 : decode cX6_party 274 = .ok (.iaload, 1) := by decide +kernel
theorem dX6_party_275 : decode cX6_party 275 = .ok (.iastore, 1) := by decide +kernel
theorem dX6_party_276 : decode cX6_party 276 = .ok (.iinc 10 1, 3) := by decide +kernel
theorem dX6_party_279 : decode cX6_party 279 = .ok (.goto (-31), 3) := by decide +kernel
theorem dX6_party_282 : decode cX6_party 282 = .ok (.iload 9, 2) := by decide +kernel
theorem dX6_party_284 : decode cX6_party 284 = .ok (.iload 6, 2) := by decide +kernel
theorem dX6_party_286 : decode cX6_party 286 = .ok (.if_icmp .le 8, 3) := by decide +kernel
theorem dX6_party_289 : decode cX6_party 289 = .ok (.iload 9, 2) := by decide +kernel
theorem dX6_party_291 : decode cX6_party 291 = .ok (.goto 5, 3) := by decide +kernel
theorem dX6_party_294 : decode cX6_party 294 = .ok (.iload 6, 2) := by decide +kernel
theorem dX6_party_296 : decode cX6_party 296 = .ok (.istore 6, 2) := by decide +kernel
theorem dX6_party_298 : decode cX6_party 298 = .ok (.aload_n 0, 1) := by decide +kernel
theorem dX6_party_299 : decode cX6_party 299 = .ok (.iload 4, 2) := by decide +kernel
theorem dX6_party_301 : decode cX6_party 301 = .ok (.invokevirtual 162, 3) := by decide +kernel
theorem dX6_party_304 : decode cX6_party 304 = .ok (.istore 7, 2) := by decide +kernel
theorem dX6_party_306 : decode cX6_party 306 = .ok (.goto (-181), 3) := by decide +kernel
theorem dX6_party_309 : decode cX6_party 309 = .ok (.iload_n 2, 1) := by decide +kernel
theorem dX6_party_310 : decode cX6_party 310 = .ok (.iconst (-1), 1) := by decide +kernel
theorem dX6_party_311 : decode cX6_party 311 = .ok (.if_icmp .ne 8, 3) := by decide +kernel
theorem dX6_party_314 : decode cX6_party 314 = .ok (.iload 6, 2) := by decide +kernel
theorem dX6_party_316 : decode cX6_party 316 = .ok (.goto 26, 3) := by decide +kernel
theorem dX6_party_319 : decode cX6_party 319 = .ok (.iload_n 2, 1) := by decide +kernel
theorem dX6_party_320 : decode cX6_party 320 = .ok (.iconst 0, 1) := by decide +kernel
theorem dX6_party_321 : decode cX6_party 321 = .ok (.iload 4, 2) := by decide +kernel
theorem dX6_party_323 : decode cX6_party 323 = .ok (.iconst 1, 1) := by decide +kernel
theorem dX6_party_324 : decode cX6_party 324 = .ok (.isub, 1) := by decide +kernel
theorem dX6_party_325 : decode cX6_party 325 = .ok (.invokestatic 60, 3) := by decide +kernel
theorem dX6_party_328 : decode cX6_party 328 = .ok (.ifCond .eq 12, 3) := by decide +kernel
theorem dX6_party_331 : decode cX6_party 331 = .ok (.aload_n 0, 1) := by decide +kernel
theorem dX6_party_332 : decode cX6_party 332 = .ok (.getfield 47, 3) := by decide +kernel
theorem dX6_party_335 : decode cX6_party 335 = .ok (.iload_n 2, 1) := by decide +kernel
theorem dX6_party_336 : decode cX6_party 336 = .ok (.iaload, 1) := by decide +kernel
theorem dX6_party_337 : decode cX6_party 337 = .ok (.goto 5, 3) := by decide +kernel
theorem dX6_party_340 : decode cX6_party 340 = .ok (.bipush (-6), 2) := by decide +kernel
theorem dX6_party_342 : decode cX6_party 342 = .ok (.ireturn, 1) := by decide +kernel
theorem dX6_layFleas_0 : decode cX6_layFleas 0 = .ok (.aload_n 0, 1) := by decide +kernel
theorem dX6_layFleas_1 : decode cX6_layFleas 1 = .ok (.iload_n 1, 1) := by decide +kernel
theorem dX6_layFleas_2 : decode cX6_layFleas 2 = .ok (.putfield 116, 3) := by decide +kernel
theorem dX6_layFleas_5 : decode cX6_layFleas 5 = .ok (.aload_n 0, 1) := by decide +kernel
theorem dX6_layFleas_6 : decode cX6_layFleas 6 = .ok (.iload_n 2, 1) := by decide +kernel
theorem dX6_layFleas_7 : decode cX6_layFleas 7 = .ok (.putfield 109, 3) := by decide +kernel
theorem dX6_layFleas_10 : decode cX6_layFleas 10 = .ok (.aload_n 0, 1) := by decide +kernel
theorem dX6_layFleas_11 : decode cX6_layFleas 11 = .ok (.aload_n 0, 1) := by decide +kernel
theorem dX6_layFleas_12 : decode cX6_layFleas 12 = .ok (.getfield 74, 3) := by decide +kernel
theorem dX6_layFleas_15 : decode cX6_layFleas 15 = .ok (.iconst 0, 1) := by decide +kernel
theorem dX6_layFleas_16 : decode cX6_layFleas 16 = .ok (.bipush (-6), 2) := by decide +kernel
theorem dX6_layFleas_18 : decode cX6_layFleas 18 = .ok (.iconst 0, 1) := by decide +kernel
theorem dX6_layFleas_19 : decode cX6_layFleas 19 = .ok (.invokevirtual 146, 3) := by decide +kernel
theorem dX6_layFleas_22 : decode cX6_layFleas 22 = .ok (.ireturn, 1) := by decide +kernel
theorem dX6_fleas_0 : decode cX6_fleas 0 = .ok (.iload_n 1, 1) := by decide +kernel
theorem dX6_fleas_1 : decode cX6_fleas 1 = .ok (.iconst 0, 1) := by decide +kernel
theorem dX6_fleas_2 : decode cX6_fleas 2 = .ok (.bipush 7, 2) := by decide +kernel
theorem dX6_fleas_4 : decode cX6_fleas 4 = .ok (.aload_n 0, 1) := by decide +kernel
theorem dX6_fleas_5 : decode cX6_fleas 5 = .ok (.getfield 7, 3) := by decide +kernel
theorem dX6_fleas_8 : decode cX6_fleas 8 = .ok (.iadd, 1) := by decide +kernel
theorem dX6_fleas_9 : decode cX6_fleas 9 = .ok (.invokestatic 60, 3) := by decide +kernel
theorem dX6_fleas_12 : decode cX6_fleas 12 = .ok (.ifCond .ne 5, 3) := by decide +kernel
theorem dX6_fleas_15 : decode cX6_fleas 15 = .ok (.iconst (-1), 1) := by decide +kernel
theorem dX6_fleas_16 : decode cX6_fleas 16 = .ok (.ireturn, 1) := by decide +kernel
theorem dX6_fleas_17 : decode cX6_fleas 17 = .ok (.iload_n 2, 1) := by decide +kernel
theorem dX6_fleas_18 : decode cX6_fleas 18 = .ok (.iconst 0, 1) := by decide +kernel
theorem dX6_fleas_19 : decode cX6_fleas 19 = .ok (.iconst 1, 1) := by decide +kernel
theorem dX6_fleas_20 : decode cX6_fleas 20 = .ok (.invokestatic 60, 3) := by decide +kernel
theorem dX6_fleas_23 : decode cX6_fleas 23 = .ok (.ifCond .ne 6, 3) := by decide +kernel
theorem dX6_fleas_26 : decode cX6_fleas 26 = .ok (.bipush (-2), 2) := by decide +kernel
theorem dX6_fleas_28 : decode cX6_fleas 28 = .ok (.ireturn, 1) := by decide +kernel
theorem dX6_fleas_29 : decode cX6_fleas 29 = .ok (.aload_n 0, 1) := by decide +kernel
theorem dX6_fleas_30 : decode cX6_fleas 30 = .ok (.aload_n 0, 1) := by decide +kernel
theorem dX6_fleas_31 : decode cX6_fleas 31 = .ok (.getfield 74, 3) := by decide +kernel
theorem dX6_fleas_34 : decode cX6_fleas 34 = .ok (.invokevirtual 150, 3) := by decide +kernel
theorem dX6_fleas_37 : decode cX6_fleas 37 = .ok (.istore_n 3, 1) := by decide +kernel
theorem dX6_fleas_38 : decode cX6_fleas 38 = .ok (.iload_n 3, 1) := by decide +kernel
theorem dX6_fleas_39 : decode cX6_fleas 39 = .ok (.ifCond .ge 5, 3) := by decide +kernel
theorem dX6_fleas_42 : decode cX6_fleas 42 = .ok (.iload_n 3, 1) := by decide +kernel
theorem dX6_fleas_43 : decode cX6_fleas 43 = .ok (.ireturn, 1) := by decide +kernel
theorem dX6_fleas_44 : decode cX6_fleas 44 = .ok (.aload_n 0, 1) := by decide +kernel
theorem dX6_fleas_45 : decode cX6_fleas 45 = .ok (.iload_n 1, 1) := by decide +kernel
theorem dX6_fleas_46 : decode cX6_fleas 46 = .ok (.bipush 8, 2) := by decide +kernel
theorem dX6_fleas_48 : decode cX6_fleas 48 = .ok (.if_icmp .ge 9, 3) := by decide +kernel
theorem dX6_fleas_51 : decode cX6_fleas 51 = .ok (.iconst 1, 1) := by decide +kernel
theorem dX6_fleas_52 : decode cX6_fleas 52 = .ok (.iload_n 1, 1) := by decide +kernel
theorem dX6_fleas_53 : decode cX6_fleas 53 = .ok (.ishl, 1) := by decide +kernel
theorem dX6_fleas_54 : decode cX6_fleas 54 = .ok (.goto 4, 3) := by decide +kernel
theorem dX6_fleas_57 : decode cX6_fleas 57 = .ok (.iconst 0, 1) := by decide +kernel
theorem dX6_fleas_58 : decode cX6_fleas 58 = .ok (.iload_n 1, 1) := by decide +kernel
theorem dX6_fleas_59 : decode cX6_fleas 59 = .ok (.bipush 8, 2) := by decide +kernel
theorem dX6_fleas_61 : decode cX6_fleas 61 = .ok (.if_icmp .ge 7, 3) := by decide +kernel
theorem dX6_fleas_64 : decode cX6_fleas 64 = .ok (.iconst 0, 1) := by decide +kernel
theorem dX6_fleas_65 : decode cX6_fleas 65 = .ok (.goto 9, 3) := by decide +kernel
theorem dX6_fleas_68 : decode cX6_fleas 68 = .ok (.iconst 1, 1) := by decide +kernel
theorem dX6_fleas_69 : decode cX6_fleas 69 = .ok (.iload_n 1, 1) := by decide +kernel
theorem dX6_fleas_70 : decode cX6_fleas 70 = .ok (.bipush 8, 2) := by decide +kernel
theorem dX6_fleas_72 : decode cX6_fleas 72 = .ok (.isub, 1) := by decide +kernel
theorem dX6_fleas_73 : decode cX6_fleas 73 = .ok (.ishl, 1) := by decide +kernel
theorem dX6_fleas_74 : decode cX6_fleas 74 = .ok (.invokevirtual 165, 3) := by decide +kernel
theorem dX6_fleas_77 : decode cX6_fleas 77 = .ok (.istore 4, 2) := by decide +kernel
theorem dX6_fleas_79 : decode cX6_fleas 79 = .ok (.iload 4, 2) := by decide +kernel
theorem dX6_fleas_81 : decode cX6_fleas 81 = .ok (.ifCond .lt 8, 3) := by decide +kernel
theorem dX6_fleas_84 : decode cX6_fleas 84 = .ok (.bipush (-5), 2) := by decide +kernel
theorem dX6_fleas_86 : decode cX6_fleas 86 = .ok (.goto 18, 3) := by decide +kernel
theorem dX6_fleas_89 : decode cX6_fleas 89 = .ok (.iload_n 2, 1) := by decide +kernel
theorem dX6_fleas_90 : decode cX6_fleas 90 = .ok (.ifCond .ne 10, 3) := by decide +kernel
theorem dX6_fleas_93 : decode cX6_fleas 93 = .ok (.aload_n 0, 1) := by decide +kernel
theorem dX6_fleas_94 : decode cX6_fleas 94 = .ok (.getfield 116, 3) := by decide +kernel
theorem dX6_fleas_97 : decode cX6_fleas 97 = .ok (.goto 7, 3) := by decide +kernel
theorem dX6_fleas_100 : decode cX6_fleas 100 = .ok (.aload_n 0, 1) := by decide +kernel
theorem dX6_fleas_101 : decode cX6_fleas 101 = .ok (.getfield 109, 3) := by decide +kernel
theorem dX6_fleas_104 : decode cX6_fleas 104 = .ok (.ireturn, 1) := by decide +kernel
theorem dX6_brought_0 : decode cX6_brought 0 = .ok (.iload_n 1, 1) := by decide +kernel
theorem dX6_brought_1 : decode cX6_brought 1 = .ok (.iconst 0, 1) := by decide +kernel
theorem dX6_brought_2 : decode cX6_brought 2 = .ok (.sipush 255, 3) := by decide +kernel
theorem dX6_brought_5 : decode cX6_brought 5 = .ok (.invokestatic 60, 3) := by decide +kernel
theorem dX6_brought_8 : decode cX6_brought 8 = .ok (.ifCond .ne 6, 3) := by decide +kernel
theorem dX6_brought_11 : decode cX6_brought 11 = .ok (.bipush (-2), 2) := by decide +kernel
theorem dX6_brought_13 : decode cX6_brought 13 = .ok (.ireturn, 1) := by decide +kernel
theorem dX6_brought_14 : decode cX6_brought 14 = .ok (.aload_n 0, 1) := by decide +kernel
theorem dX6_brought_15 : decode cX6_brought 15 = .ok (.aload_n 0, 1) := by decide +kernel
theorem dX6_brought_16 : decode cX6_brought 16 = .ok (.getfield 74, 3) := by decide +kernel
theorem dX6_brought_19 : decode cX6_brought 19 = .ok (.invokevirtual 150, 3) := by decide +kernel
theorem dX6_brought_22 : decode cX6_brought 22 = .ok (.istore_n 2, 1) := by decide +kernel
theorem dX6_brought_23 : decode cX6_brought 23 = .ok (.iload_n 2, 1) := by decide +kernel
theorem dX6_brought_24 : decode cX6_brought 24 = .ok (.ifCond .ge 5, 3) := by decide +kernel
theorem dX6_brought_27 : decode cX6_brought 27 = .ok (.iload_n 2, 1) := by decide +kernel
theorem dX6_brought_28 : decode cX6_brought 28 = .ok (.ireturn, 1) := by decide +kernel
theorem dX6_brought_29 : decode cX6_brought 29 = .ok (.iconst 0, 1) := by decide +kernel
theorem dX6_brought_30 : decode cX6_brought 30 = .ok (.istore_n 3, 1) := by decide +kernel
theorem dX6_brought_31 : decode cX6_brought 31 = .ok (.iconst 0, 1) := by decide +kernel
theorem dX6_brought_32 : decode cX6_brought 32 = .ok (.istore 4, 2) := by decide +kernel
theorem dX6_brought_34 : decode cX6_brought 34 = .ok (.iload 4, 2) := by decide +kernel
theorem dX6_brought_36 : decode cX6_brought 36 = .ok (.bipush 8, 2) := by decide +kernel
theorem dX6_brought_38 : decode cX6_brought 38 = .ok (.if_icmp .ge 44, 3) := by decide +kernel
theorem dX6_brought_41 : decode cX6_brought 41 = .ok (.aload_n 0, 1) := by decide +kernel
theorem dX6_brought_42 : decode cX6_brought 42 = .ok (.iconst 1, 1) := by decide +kernel
theorem dX6_brought_43 : decode cX6_brought 43 = .ok (.iload 4, 2) := by decide +kernel
theorem dX6_brought_45 : decode cX6_brought 45 = .ok (.ishl, 1) := by decide +kernel
theorem dX6_brought_46 : decode cX6_brought 46 = .ok (.iconst 0, 1) := by decide +kernel
theorem dX6_brought_47 : decode cX6_brought 47 = .ok (.invokevirtual 165, 3) := by decide +kernel
theorem dX6_brought_50 : decode cX6_brought 50 = .ok (.istore 5, 2) := by decide +kernel
theorem dX6_brought_52 : decode cX6_brought 52 = .ok (.iload_n 3, 1) := by decide +kernel
theorem dX6_brought_53 : decode cX6_brought 53 = .ok (.iload 5, 2) := by decide +kernel
theorem dX6_brought_55 : decode cX6_brought 55 = .ok (.ifCond .ge 18, 3) := by decide +kernel
theorem dX6_brought_58 : decode cX6_brought 58 = .ok (.aload_n 0, 1) := by decide +kernel
theorem dX6_brought_59 : decode cX6_brought 59 = .ok (.getfield 116, 3) := by decide +kernel
theorem dX6_brought_62 : decode cX6_brought 62 = .ok (.iload_n 1, 1) := by decide +kernel
theorem dX6_brought_63 : decode cX6_brought 63 = .ok (.if_icmp .ne 10, 3) := by decide +kernel
theorem dX6_brought_66 : decode cX6_brought 66 = .ok (.iconst 1, 1) := by decide +kernel
theorem dX6_brought_67 : decode cX6_brought 67 = .ok (.iload 4, 2) := by decide +kernel
theorem dX6_brought_69 : decode cX6_brought 69 = .ok (.ishl, 1) := by decide +kernel
theorem dX6_brought_70 : decode cX6_brought 70 = .ok (.goto 4, 3) := by decide +kernel
theorem dX6_brought_73 : decode cX6_brought 73 = .ok (.iconst 0, 1) := by decide +kernel
theorem dX6_brought_74 : decode cX6_brought 74 = .ok (.ior, 1) := by decide +kernel
theorem dX6_brought_75 : decode cX6_brought 75 = .ok (.istore_n 3, 1) := by decide +kernel
theorem dX6_brought_76 : decode cX6_brought 76 = .ok (.iinc 4 1, 3) := by decide +kernel
theorem dX6_brought_79 : decode cX6_brought 79 = .ok (.goto (-45), 3) := by decide +kernel
theorem dX6_brought_82 : decode cX6_brought 82 = .ok (.iload_n 3, 1) := by decide +kernel
theorem dX6_brought_83 : decode cX6_brought 83 = .ok (.ireturn, 1) := by decide +kernel
theorem dX6_seen_0 : decode cX6_seen 0 = .ok (.iload_n 1, 1) := by decide +kernel
theorem dX6_seen_1 : decode cX6_seen 1 = .ok (.invokestatic 67, 3) := by decide +kernel
theorem dX6_seen_4 : decode cX6_seen 4 = .ok (.ifCond .eq 11, 3) := by decide +kernel
theorem dX6_seen_7 : decode cX6_seen 7 = .ok (.aload_n 0, 1) := by decide +kernel
theorem dX6_seen_8 : decode cX6_seen 8 = .ok (.iload_n 2, 1) := by decide +kernel
theorem dX6_seen_9 : decode cX6_seen 9 = .ok (.invokevirtual 71, 3) := by decide +kernel
theorem dX6_seen_12 : decode cX6_seen 12 = .ok (.ifCond .ne 5, 3) := by decide +kernel
theorem dX6_seen_15 : decode cX6_seen 15 = .ok (.iconst (-1), 1) := by decide +kernel
theorem dX6_seen_16 : decode cX6_seen 16 = .ok (.ireturn, 1) := by decide +kernel
theorem dX6_seen_17 : decode cX6_seen 17 = .ok (.aload_n 0, 1) := by decide +kernel
theorem dX6_seen_18 : decode cX6_seen 18 = .ok (.getfield 64, 3) := by decide +kernel
theorem dX6_seen_21 : decode cX6_seen 21 = .ok (.bipush 6, 2) := by decide +kernel
theorem dX6_seen_23 : decode cX6_seen 23 = .ok (.if_icmp .ne 6, 3) := by decide +kernel
theorem dX6_seen_26 : decode cX6_seen 26 = .ok (.bipush (-4), 2) := by decide +kernel
theorem dX6_seen_28 : decode cX6_seen 28 = .ok (.ireturn, 1) := by decide +kernel
theorem dX6_seen_29 : decode cX6_seen 29 = .ok (.aload_n 0, 1) := by decide +kernel
theorem dX6_seen_30 : decode cX6_seen 30 = .ok (.getfield 17, 3) := by decide +kernel
theorem dX6_seen_33 : decode cX6_seen 33 = .ok (.iconst 2, 1) := by decide +kernel
theorem dX6_seen_34 : decode cX6_seen 34 = .ok (.aload_n 0, 1) := by decide +kernel
theorem dX6_seen_35 : decode cX6_seen 35 = .ok (.getfield 64, 3) := by decide +kernel
theorem dX6_seen_38 : decode cX6_seen 38 = .ok (.imul, 1) := by decide +kernel
theorem dX6_seen_39 : decode cX6_seen 39 = .ok (.iload_n 1, 1) := by decide +kernel
theorem dX6_seen_40 : decode cX6_seen 40 = .ok (.iastore, 1) := by decide +kernel
theorem dX6_seen_41 : decode cX6_seen 41 = .ok (.aload_n 0, 1) := by decide +kernel
theorem dX6_seen_42 : decode cX6_seen 42 = .ok (.getfield 17, 3) := by decide +kernel
theorem dX6_seen_45 : decode cX6_seen 45 = .ok (.iconst 2, 1) := by decide +kernel
theorem dX6_seen_46 : decode cX6_seen 46 = .ok (.aload_n 0, 1) := by decide +kernel
theorem dX6_seen_47 : decode cX6_seen 47 = .ok (.getfield 64, 3) := by decide +kernel
theorem dX6_seen_50 : decode cX6_seen 50 = .ok (.imul, 1) := by decide +kernel
theorem dX6_seen_51 : decode cX6_seen 51 = .ok (.iconst 1, 1) := by decide +kernel
theorem dX6_seen_52 : decode cX6_seen 52 = .ok (.iadd, 1) := by decide +kernel
theorem dX6_seen_53 : decode cX6_seen 53 = .ok (.iload_n 2, 1) := by decide +kernel
theorem dX6_seen_54 : decode cX6_seen 54 = .ok (.iastore, 1) := by decide +kernel
theorem dX6_seen_55 : decode cX6_seen 55 = .ok (.aload_n 0, 1) := by decide +kernel
theorem dX6_seen_56 : decode cX6_seen 56 = .ok (.dup, 1) := by decide +kernel
theorem dX6_seen_57 : decode cX6_seen 57 = .ok (.getfield 64, 3) := by decide +kernel
theorem dX6_seen_60 : decode cX6_seen 60 = .ok (.iconst 1, 1) := by decide +kernel
theorem dX6_seen_61 : decode cX6_seen 61 = .ok (.iadd, 1) := by decide +kernel
theorem dX6_seen_62 : decode cX6_seen 62 = .ok (.putfield 64, 3) := by decide +kernel
theorem dX6_seen_65 : decode cX6_seen 65 = .ok (.aload_n 0, 1) := by decide +kernel
theorem dX6_seen_66 : decode cX6_seen 66 = .ok (.getfield 64, 3) := by decide +kernel
theorem dX6_seen_69 : decode cX6_seen 69 = .ok (.ireturn, 1) := by decide +kernel
theorem dX6_forget_0 : decode cX6_forget 0 = .ok (.aload_n 0, 1) := by decide +kernel
theorem dX6_forget_1 : decode cX6_forget 1 = .ok (.getfield 64, 3) := by decide +kernel
theorem dX6_forget_4 : decode cX6_forget 4 = .ok (.istore_n 1, 1) := by decide +kernel
theorem dX6_forget_5 : decode cX6_forget 5 = .ok (.aload_n 0, 1) := by decide +kernel
theorem dX6_forget_6 : decode cX6_forget 6 = .ok (.iconst 0, 1) := by decide +kernel
theorem dX6_forget_7 : decode cX6_forget 7 = .ok (.putfield 64, 3) := by decide +kernel
theorem dX6_forget_10 : decode cX6_forget 10 = .ok (.iload_n 1, 1) := by decide +kernel
theorem dX6_forget_11 : decode cX6_forget 11 = .ok (.ireturn, 1) := by decide +kernel
theorem dX6_isFit_0 : decode cX6_isFit 0 = .ok (.aload_n 0, 1) := by decide +kernel
theorem dX6_isFit_1 : decode cX6_isFit 1 = .ok (.aload_n 0, 1) := by decide +kernel
theorem dX6_isFit_2 : decode cX6_isFit 2 = .ok (.getfield 74, 3) := by decide +kernel
theorem dX6_isFit_5 : decode cX6_isFit 5 = .ok (.iload_n 1, 1) := by decide +kernel
theorem dX6_isFit_6 : decode cX6_isFit 6 = .ok (.bipush (-6), 2) := by decide +kernel
theorem dX6_isFit_8 : decode cX6_isFit 8 = .ok (.iconst 0, 1) := by decide +kernel
theorem dX6_isFit_9 : decode cX6_isFit 9 = .ok (.invokevirtual 146, 3) := by decide +kernel
theorem dX6_isFit_12 : decode cX6_isFit 12 = .ok (.ifCond .ge 7, 3) := by decide +kernel
theorem dX6_isFit_15 : decode cX6_isFit 15 = .ok (.iconst 1, 1) := by decide +kernel
theorem dX6_isFit_16 : decode cX6_isFit 16 = .ok (.goto 4, 3) := by decide +kernel
theorem dX6_isFit_19 : decode cX6_isFit 19 = .ok (.iconst 0, 1) := by decide +kernel
theorem dX6_isFit_20 : decode cX6_isFit 20 = .ok (.istore_n 2, 1) := by decide +kernel
theorem dX6_isFit_21 : decode cX6_isFit 21 = .ok (.iconst 0, 1) := by decide +kernel
theorem dX6_isFit_22 : decode cX6_isFit 22 = .ok (.istore_n 3, 1) := by decide +kernel
theorem dX6_isFit_23 : decode cX6_isFit 23 = .ok (.iload_n 3, 1) := by decide +kernel
theorem dX6_isFit_24 : decode cX6_isFit 24 = .ok (.aload_n 0, 1) := by decide +kernel
theorem dX6_isFit_25 : decode cX6_isFit 25 = .ok (.getfield 64, 3) := by decide +kernel
theorem dX6_isFit_28 : decode cX6_isFit 28 = .ok (.if_icmp .ge 45, 3) := by decide +kernel
theorem dX6_isFit_31 : decode cX6_isFit 31 = .ok (.iload_n 2, 1) := by decide +kernel
theorem dX6_isFit_32 : decode cX6_isFit 32 = .ok (.ifCond .eq 41, 3) := by decide +kernel
theorem dX6_isFit_35 : decode cX6_isFit 35 = .ok (.aload_n 0, 1) := by decide +kernel
theorem dX6_isFit_36 : decode cX6_isFit 36 = .ok (.getfield 23, 3) := by decide +kernel
theorem dX6_isFit_39 : decode cX6_isFit 39 = .ok (.aload_n 0, 1) := by decide +kernel
theorem dX6_isFit_40 : decode cX6_isFit 40 = .ok (.getfield 17, 3) := by decide +kernel
theorem dX6_isFit_43 : decode cX6_isFit 43 = .ok (.iconst 2, 1) := by decide +kernel
theorem dX6_isFit_44 : decode cX6_isFit 44 = .ok (.iload_n 3, 1) := by decide +kernel
theorem dX6_isFit_45 : decode cX6_isFit 45 = .ok (.imul, 1) := by decide +kernel
theorem dX6_isFit_46 : decode cX6_isFit 46 = .ok (.iconst 1, 1) := by decide +kernel
theorem dX6_isFit_47 : decode cX6_isFit 47 = .ok (.iadd, 1) := by decide +kernel
theorem dX6_isFit_48 : decode cX6_isFit 48 = .ok (.iaload, 1) := by decide +kernel
theorem dX6_isFit_49 : decode cX6_isFit 49 = .ok (.iaload, 1) := by decide +kernel
theorem dX6_isFit_50 : decode cX6_isFit 50 = .ok (.aload_n 0, 1) := by decide +kernel
theorem dX6_isFit_51 : decode cX6_isFit 51 = .ok (.getfield 17, 3) := by decide +kernel
theorem dX6_isFit_54 : decode cX6_isFit 54 = .ok (.iconst 2, 1) := by decide +kernel
theorem dX6_isFit_55 : decode cX6_isFit 55 = .ok (.iload_n 3, 1) := by decide +kernel
theorem dX6_isFit_56 : decode cX6_isFit 56 = .ok (.imul, 1) := by decide +kernel
theorem dX6_isFit_57 : decode cX6_isFit 57 = .ok (.iaload, 1) := by decide +kernel
theorem dX6_isFit_58 : decode cX6_isFit 58 = .ok (.if_icmp .ne 7, 3) := by decide +kernel
theorem dX6_isFit_61 : decode cX6_isFit 61 = .ok (.iconst 1, 1) := by decide +kernel
theorem dX6_isFit_62 : decode cX6_isFit 62 = .ok (.goto 4, 3) := by decide +kernel
theorem dX6_isFit_65 : decode cX6_isFit 65 = .ok (.iconst 0, 1) := by decide +kernel
theorem dX6_isFit_66 : decode cX6_isFit 66 = .ok (.istore_n 2, 1) := by decide +kernel
theorem dX6_isFit_67 : decode cX6_isFit 67 = .ok (.iinc 3 1, 3) := by decide +kernel
theorem dX6_isFit_70 : decode cX6_isFit 70 = .ok (.goto (-47), 3) := by decide +kernel
theorem dX6_isFit_73 : decode cX6_isFit 73 = .ok (.iload_n 2, 1) := by decide +kernel
theorem dX6_isFit_74 : decode cX6_isFit 74 = .ok (.ireturn, 1) := by decide +kernel
theorem dX6_codes_0 : decode cX6_codes 0 = .ok (.iconst 1, 1) := by decide +kernel
theorem dX6_codes_1 : decode cX6_codes 1 = .ok (.istore_n 1, 1) := by decide +kernel
theorem dX6_codes_2 : decode cX6_codes 2 = .ok (.iconst 0, 1) := by decide +kernel
theorem dX6_codes_3 : decode cX6_codes 3 = .ok (.istore_n 2, 1) := by decide +kernel
theorem dX6_codes_4 : decode cX6_codes 4 = .ok (.iload_n 2, 1) := by decide +kernel
theorem dX6_codes_5 : decode cX6_codes 5 = .ok (.aload_n 0, 1) := by decide +kernel
theorem dX6_codes_6 : decode cX6_codes 6 = .ok (.aload_n 0, 1) := by decide +kernel
theorem dX6_codes_7 : decode cX6_codes 7 = .ok (.getfield 74, 3) := by decide +kernel
theorem dX6_codes_10 : decode cX6_codes 10 = .ok (.invokevirtual 137, 3) := by decide +kernel
theorem dX6_codes_13 : decode cX6_codes 13 = .ok (.if_icmp .ge 14, 3) := by decide +kernel
theorem dX6_codes_16 : decode cX6_codes 16 = .ok (.iload_n 1, 1) := by decide +kernel
theorem dX6_codes_17 : decode cX6_codes 17 = .ok (.bipush 8, 2) := by decide +kernel
theorem dX6_codes_19 : decode cX6_codes 19 = .ok (.imul, 1) := by decide +kernel
theorem dX6_codes_20 : decode cX6_codes 20 = .ok (.istore_n 1, 1) := by decide +kernel
theorem dX6_codes_21 : decode cX6_codes 21 = .ok (.iinc 2 1, 3) := by decide +kernel
theorem dX6_codes_24 : decode cX6_codes 24 = .ok (.goto (-20), 3) := by decide +kernel
theorem dX6_codes_27 : decode cX6_codes 27 = .ok (.iload_n 1, 1) := by decide +kernel
theorem dX6_codes_28 : decode cX6_codes 28 = .ok (.ireturn, 1) := by decide +kernel
theorem dX6_guestAt_0 : decode cX6_guestAt 0 = .ok (.iload_n 1, 1) := by decide +kernel
theorem dX6_guestAt_1 : decode cX6_guestAt 1 = .ok (.istore_n 3, 1) := by decide +kernel
theorem dX6_guestAt_2 : decode cX6_guestAt 2 = .ok (.aload_n 0, 1) := by decide +kernel
theorem dX6_guestAt_3 : decode cX6_guestAt 3 = .ok (.aload_n 0, 1) := by decide +kernel
theorem dX6_guestAt_4 : decode cX6_guestAt 4 = .ok (.getfield 74, 3) := by decide +kernel
theorem dX6_guestAt_7 : decode cX6_guestAt 7 = .ok (.invokevirtual 137, 3) := by decide +kernel
theorem dX6_guestAt_10 : decode cX6_guestAt 10 = .ok (.iconst 1, 1) := by decide +kernel
theorem dX6_guestAt_11 : decode cX6_guestAt 11 = .ok (.isub, 1) := by decide +kernel
theorem dX6_guestAt_12 : decode cX6_guestAt 12 = .ok (.istore 4, 2) := by decide +kernel
theorem dX6_guestAt_14 : decode cX6_guestAt 14 = .ok (.iload 4, 2) := by decide +kernel
theorem dX6_guestAt_16 : decode cX6_guestAt 16 = .ok (.iload_n 2, 1) := by decide +kernel
theorem dX6_guestAt_17 : decode cX6_guestAt 17 = .ok (.if_icmp .le 14, 3) := by decide +kernel
theorem dX6_guestAt_20 : decode cX6_guestAt 20 = .ok (.iload_n 3, 1) := by decide +kernel
theorem dX6_guestAt_21 : decode cX6_guestAt 21 = .ok (.bipush 8, 2) := by decide +kernel
theorem dX6_guestAt_23 : decode cX6_guestAt 23 = .ok (.idiv, 1) := by decide +kernel
theorem dX6_guestAt_24 : decode cX6_guestAt 24 = .ok (.istore_n 3, 1) := by decide +kernel
theorem dX6_guestAt_25 : decode cX6_guestAt 25 = .ok (.iinc 4 (-1), 3) := by decide +kernel
theorem dX6_guestAt_28 : decode cX6_guestAt 28 = .ok (.goto (-14), 3) := by decide +kernel
theorem dX6_guestAt_31 : decode cX6_guestAt 31 = .ok (.iload_n 3, 1) := by decide +kernel
theorem dX6_guestAt_32 : decode cX6_guestAt 32 = .ok (.bipush 8, 2) := by decide +kernel
theorem dX6_guestAt_34 : decode cX6_guestAt 34 = .ok (.irem, 1) := by decide +kernel
theorem dX6_guestAt_35 : decode cX6_guestAt 35 = .ok (.ireturn, 1) := by decide +kernel
theorem dX6_filled_0 : decode cX6_filled 0 = .ok (.aload_n 0, 1) := by decide +kernel
theorem dX6_filled_1 : decode cX6_filled 1 = .ok (.invokevirtual 77, 3) := by decide +kernel
theorem dX6_filled_4 : decode cX6_filled 4 = .ok (.ifCond .lt 6, 3) := by decide +kernel
theorem dX6_filled_7 : decode cX6_filled 7 = .ok (.bipush (-5), 2) := by decide +kernel
theorem dX6_filled_9 : decode cX6_filled 9 = .ok (.ireturn, 1) := by decide +kernel
theorem dX6_filled_10 : decode cX6_filled 10 = .ok (.iconst 0, 1) := by decide +kernel
theorem dX6_filled_11 : decode cX6_filled 11 = .ok (.istore_n 2, 1) := by decide +kernel
theorem dX6_filled_12 : decode cX6_filled 12 = .ok (.bipush (-6), 2) := by decide +kernel
theorem dX6_filled_14 : decode cX6_filled 14 = .ok (.istore_n 3, 1) := by decide +kernel
theorem dX6_filled_15 : decode cX6_filled 15 = .ok (.iconst 0, 1) := by decide +kernel
theorem dX6_filled_16 : decode cX6_filled 16 = .ok (.istore 4, 2) := by decide +kernel
theorem dX6_filled_18 : decode cX6_filled 18 = .ok (.iload 4, 2) := by decide +kernel
theorem dX6_filled_20 : decode cX6_filled 20 = .ok (.aload_n 0, 1) := by decide +kernel
theorem dX6_filled_21 : decode cX6_filled 21 = .ok (.invokevirtual 168, 3) := by decide +kernel
theorem dX6_filled_24 : decode cX6_filled 24 = .ok (.if_icmp .ge 32, 3) := by decide +kernel
theorem dX6_filled_27 : decode cX6_filled 27 = .ok (.aload_n 0, 1) := by decide +kernel
theorem dX6_filled_28 : decode cX6_filled 28 = .ok (.iload 4, 2) := by decide +kernel
theorem dX6_filled_30 : decode cX6_filled 30 = .ok (.invokevirtual 171, 3) := by decide +kernel
theorem dX6_filled_33 : decode cX6_filled 33 = .ok (.ifCond .eq 17, 3) := by decide +kernel
theorem dX6_filled_36 : decode cX6_filled 36 = .ok (.iload_n 3, 1) := by decide +kernel
theorem dX6_filled_37 : decode cX6_filled 37 = .ok (.ifCond .ge 8, 3) := by decide +kernel
theorem dX6_filled_40 : decode cX6_filled 40 = .ok (.iload 4, 2) := by decide +kernel
theorem dX6_filled_42 : decode cX6_filled 42 = .ok (.goto 4, 3) := by decide +kernel
theorem dX6_filled_45 : decode cX6_filled 45 = .ok (.iload_n 3, 1) := by decide +kernel
theorem dX6_filled_46 : decode cX6_filled 46 = .ok (.istore_n 3, 1) := by decide +kernel
theorem dX6_filled_47 : decode cX6_filled 47 = .ok (.iinc 2 1, 3) := by decide +kernel
theorem dX6_filled_50 : decode cX6_filled 50 = .ok (.iinc 4 1, 3) := by decide +kernel
theorem dX6_filled_53 : decode cX6_filled 53 = .ok (.goto (-35), 3) := by decide +kernel
theorem dX6_filled_56 : decode cX6_filled 56 = .ok (.iload_n 1, 1) := by decide +kernel
theorem dX6_filled_57 : decode cX6_filled 57 = .ok (.iconst (-1), 1) := by decide +kernel
theorem dX6_filled_58 : decode cX6_filled 58 = .ok (.if_icmp .ne 5, 3) := by decide +kernel
theorem dX6_filled_61 : decode cX6_filled 61 = .ok (.iload_n 2, 1) := by decide +kernel
theorem dX6_filled_62 : decode cX6_filled 62 = .ok (.ireturn, 1) := by decide +kernel
theorem dX6_filled_63 : decode cX6_filled 63 = .ok (.iload_n 3, 1) := by decide +kernel
theorem dX6_filled_64 : decode cX6_filled 64 = .ok (.ifCond .lt 30, 3) := by decide +kernel
theorem dX6_filled_67 : decode cX6_filled 67 = .ok (.iload_n 1, 1) := by decide +kernel
theorem dX6_filled_68 : decode cX6_filled 68 = .ok (.iconst 0, 1) := by decide +kernel
theorem dX6_filled_69 : decode cX6_filled 69 = .ok (.aload_n 0, 1) := by decide +kernel
theorem dX6_filled_70 : decode cX6_filled 70 = .ok (.aload_n 0, 1) := by decide +kernel
theorem dX6_filled_71 : decode cX6_filled 71 = .ok (.getfield 74, 3) := by decide +kernel
theorem dX6_filled_74 : decode cX6_filled 74 = .ok (.invokevirtual 137, 3) := by decide +kernel
theorem dX6_filled_77 : decode cX6_filled 77 = .ok (.iconst 1, 1) := by decide +kernel
theorem dX6_filled_78 : decode cX6_filled 78 = .ok (.isub, 1) := by decide +kernel
theorem dX6_filled_79 : decode cX6_filled 79 = .ok (.invokestatic 60, 3) := by decide +kernel
theorem dX6_filled_82 : decode cX6_filled 82 = .ok (.ifCond .eq 12, 3) := by decide +kernel
theorem dX6_filled_85 : decode cX6_filled 85 = .ok (.aload_n 0, 1) := by decide +kernel
theorem dX6_filled_86 : decode cX6_filled 86 = .ok (.iload_n 3, 1) := by decide +kernel
theorem dX6_filled_87 : decode cX6_filled 87 = .ok (.iload_n 1, 1) := by decide +kernel
theorem dX6_filled_88 : decode cX6_filled 88 = .ok (.invokevirtual 174, 3) := by decide +kernel
theorem dX6_filled_91 : decode cX6_filled 91 = .ok (.goto 5, 3) := by decide +kernel
theorem dX6_filled_94 : decode cX6_filled 94 = .ok (.bipush (-6), 2) := by decide +kernel
theorem dX6_filled_96 : decode cX6_filled 96 = .ok (.ireturn, 1) := by decide +kernel
theorem dX6_could_0 : decode cX6_could 0 = .ok (.aload_n 0, 1) := by decide +kernel
theorem dX6_could_1 : decode cX6_could 1 = .ok (.invokevirtual 77, 3) := by decide +kernel
theorem dX6_could_4 : decode cX6_could 4 = .ok (.ifCond .lt 6, 3) := by decide +kernel
theorem dX6_could_7 : decode cX6_could 7 = .ok (.bipush (-5), 2) := by decide +kernel
theorem dX6_could_9 : decode cX6_could 9 = .ok (.ireturn, 1) := by decide +kernel
theorem dX6_could_10 : decode cX6_could 10 = .ok (.iload_n 1, 1) := by decide +kernel
theorem dX6_could_11 : decode cX6_could 11 = .ok (.iconst 0, 1) := by decide +kernel
theorem dX6_could_12 : decode cX6_could 12 = .ok (.aload_n 0, 1) := by decide +kernel
theorem dX6_could_13 : decode cX6_could 13 = .ok (.aload_n 0, 1) := by decide +kernel
theorem dX6_could_14 : decode cX6_could 14 = .ok (.getfield 74, 3) := by decide +kernel
theorem dX6_could_17 : decode cX6_could 17 = .ok (.invokevirtual 137, 3) := by decide +kernel
theorem dX6_could_20 : decode cX6_could 20 = .ok (.iconst 1, 1) := by decide +kernel
theorem dX6_could_21 : decode cX6_could 21 = .ok (.isub, 1) := by decide +kernel
theorem dX6_could_22 : decode cX6_could 22 = .ok (.invokestatic 60, 3) := by decide +kernel
theorem dX6_could_25 : decode cX6_could 25 = .ok (.ifCond .ne 6, 3) := by decide +kernel
theorem dX6_could_28 : decode cX6_could 28 = .ok (.bipush (-6), 2) := by decide +kernel
theorem dX6_could_30 : decode cX6_could 30 = .ok (.ireturn, 1) := by decide +kernel
theorem dX6_could_31 : decode cX6_could 31 = .ok (.iconst 0, 1) := by decide +kernel
theorem dX6_could_32 : decode cX6_could 32 = .ok (.istore_n 2, 1) := by decide +kernel
theorem dX6_could_33 : decode cX6_could 33 = .ok (.iconst 0, 1) := by decide +kernel
theorem dX6_could_34 : decode cX6_could 34 = .ok (.istore_n 3, 1) := by decide +kernel
theorem dX6_could_35 : decode cX6_could 35 = .ok (.iload_n 3, 1) := by decide +kernel
theorem dX6_could_36 : decode cX6_could 36 = .ok (.aload_n 0, 1) := by decide +kernel
theorem dX6_could_37 : decode cX6_could 37 = .ok (.invokevirtual 168, 3) := by decide +kernel
theorem dX6_could_40 : decode cX6_could 40 = .ok (.if_icmp .ge 32, 3) := by decide +kernel
theorem dX6_could_43 : decode cX6_could 43 = .ok (.iload_n 2, 1) := by decide +kernel
theorem dX6_could_44 : decode cX6_could 44 = .ok (.aload_n 0, 1) := by decide +kernel
theorem dX6_could_45 : decode cX6_could 45 = .ok (.iload_n 3, 1) := by decide +kernel
theorem dX6_could_46 : decode cX6_could 46 = .ok (.invokevirtual 171, 3) := by decide +kernel
theorem dX6_could_49 : decode cX6_could 49 = .ok (.ifCond .eq 14, 3) := by decide +kernel
theorem dX6_could_52 : decode cX6_could 52 = .ok (.iconst 1, 1) := by decide +kernel
theorem dX6_could_53 : decode cX6_could 53 = .ok (.aload_n 0, 1) := by decide +kernel
theorem dX6_could_54 : decode cX6_could 54 = .ok (.iload_n 3, 1) := by decide +kernel
theorem dX6_could_55 : decode cX6_could 55 = .ok (.iload_n 1, 1) := by decide +kernel
theorem dX6_could_56 : decode cX6_could 56 = .ok (.invokevirtual 174, 3) := by decide +kernel
theorem dX6_could_59 : decode cX6_could 59 = .ok (.ishl, 1) := by decide +kernel
theorem dX6_could_60 : decode cX6_could 60 = .ok (.goto 4, 3) := by decide +kernel
theorem dX6_could_63 : decode cX6_could 63 = .ok (.iconst 0, 1) := by decide +kernel
theorem dX6_could_64 : decode cX6_could 64 = .ok (.ior, 1) := by decide +kernel
theorem dX6_could_65 : decode cX6_could 65 = .ok (.istore_n 2, 1) := by decide +kernel
theorem dX6_could_66 : decode cX6_could 66 = .ok (.iinc 3 1, 3) := by decide +kernel
theorem dX6_could_69 : decode cX6_could 69 = .ok (.goto (-34), 3) := by decide +kernel
theorem dX6_could_72 : decode cX6_could 72 = .ok (.iload_n 2, 1) := by decide +kernel
theorem dX6_could_73 : decode cX6_could 73 = .ok (.ireturn, 1) := by decide +kernel
theorem dX6_power_0 : decode cX6_power 0 = .ok (.lconst 1, 1) := by decide +kernel
theorem dX6_power_1 : decode cX6_power 1 = .ok (.lstore_n 3, 1) := by decide +kernel
theorem dX6_power_2 : decode cX6_power 2 = .ok (.iconst 0, 1) := by decide +kernel
theorem dX6_power_3 : decode cX6_power 3 = .ok (.istore 5, 2) := by decide +kernel
theorem dX6_power_5 : decode cX6_power 5 = .ok (.iload 5, 2) := by decide +kernel
theorem dX6_power_7 : decode cX6_power 7 = .ok (.iload_n 2, 1) := by decide +kernel
theorem dX6_power_8 : decode cX6_power 8 = .ok (.if_icmp .ge 13, 3) := by decide +kernel
theorem dX6_power_11 : decode cX6_power 11 = .ok (.lload_n 3, 1) := by decide +kernel
theorem dX6_power_12 : decode cX6_power 12 = .ok (.lload_n 0, 1) := by decide +kernel
theorem dX6_power_13 : decode cX6_power 13 = .ok (.lmul, 1) := by decide +kernel
theorem dX6_power_14 : decode cX6_power 14 = .ok (.lstore_n 3, 1) := by decide +kernel
theorem dX6_power_15 : decode cX6_power 15 = .ok (.iinc 5 1, 3) := by decide +kernel
theorem dX6_power_18 : decode cX6_power 18 = .ok (.goto (-13), 3) := by decide +kernel
theorem dX6_power_21 : decode cX6_power 21 = .ok (.lload_n 3, 1) := by decide +kernel
theorem dX6_power_22 : decode cX6_power 22 = .ok (.lreturn, 1) := by decide +kernel
theorem dX6_chance_0 : decode cX6_chance 0 = .ok (.aload_n 0, 1) := by decide +kernel
theorem dX6_chance_1 : decode cX6_chance 1 = .ok (.iload_n 1, 1) := by decide +kernel
theorem dX6_chance_2 : decode cX6_chance 2 = .ok (.invokevirtual 71, 3) := by decide +kernel
theorem dX6_chance_5 : decode cX6_chance 5 = .ok (.ifCond .ne 7, 3) := by decide +kernel
theorem dX6_chance_8 : decode cX6_chance 8 = .ok (.ldc2_w 177, 3) := by decide +kernel
theorem dX6_chance_11 : decode cX6_chance 11 = .ok (.lreturn, 1) := by decide +kernel
theorem dX6_chance_12 : decode cX6_chance 12 = .ok (.iload_n 2, 1) := by decide +kernel
theorem dX6_chance_13 : decode cX6_chance 13 = .ok (.iconst 0, 1) := by decide +kernel
theorem dX6_chance_14 : decode cX6_chance 14 = .ok (.bipush 8, 2) := by decide +kernel
theorem dX6_chance_16 : decode cX6_chance 16 = .ok (.invokestatic 60, 3) := by decide +kernel
theorem dX6_chance_19 : decode cX6_chance 19 = .ok (.ifCond .eq 23, 3) := by decide +kernel
theorem dX6_chance_22 : decode cX6_chance 22 = .ok (.iload_n 3, 1) := by decide +kernel
theorem dX6_chance_23 : decode cX6_chance 23 = .ok (.iconst 0, 1) := by decide +kernel
theorem dX6_chance_24 : decode cX6_chance 24 = .ok (.bipush 10, 2) := by decide +kernel
theorem dX6_chance_26 : decode cX6_chance 26 = .ok (.invokestatic 60, 3) := by decide +kernel
theorem dX6_chance_29 : decode cX6_chance 29 = .ok (.ifCond .eq 13, 3) := by decide +kernel
theorem dX6_chance_32 : decode cX6_chance 32 = .ok (.iload 4, 2) := by decide +kernel
theorem dX6_chance_34 : decode cX6_chance 34 = .ok (.iconst 0, 1) := by decide +kernel
theorem dX6_chance_35 : decode cX6_chance 35 = .ok (.iconst 1, 1) := by decide +kernel
theorem dX6_chance_36 : decode cX6_chance 36 = .ok (.invokestatic 60, 3) := by decide +kernel
theorem dX6_chance_39 : decode cX6_chance 39 = .ok (.ifCond .ne 7, 3) := by decide +kernel
theorem dX6_chance_42 : decode cX6_chance 42 = .ok (.ldc2_w 179, 3) := by decide +kernel
theorem dX6_chance_45 : decode cX6_chance 45 = .ok (.lreturn, 1) := by decide +kernel
theorem dX6_chance_46 : decode cX6_chance 46 = .ok (.aload_n 0, 1) := by decide +kernel
theorem dX6_chance_47 : decode cX6_chance 47 = .ok (.aload_n 0, 1) := by decide +kernel
theorem dX6_chance_48 : decode cX6_chance 48 = .ok (.getfield 74, 3) := by decide +kernel
theorem dX6_chance_51 : decode cX6_chance 51 = .ok (.invokevirtual 150, 3) := by decide +kernel
theorem dX6_chance_54 : decode cX6_chance 54 = .ok (.istore 5, 2) := by decide +kernel
theorem dX6_chance_56 : decode cX6_chance 56 = .ok (.iload 5, 2) := by decide +kernel
theorem dX6_chance_58 : decode cX6_chance 58 = .ok (.ifCond .ge 11, 3) := by decide +kernel
theorem dX6_chance_61 : decode cX6_chance 61 = .ok (.ldc2_w 181, 3) := by decide +kernel
theorem dX6_chance_64 : decode cX6_chance 64 = .ok (.iload 5, 2) := by decide +kernel
theorem dX6_chance_66 : decode cX6_chance 66 = .ok (.i2l, 1) := by decide +kernel
theorem dX6_chance_67 : decode cX6_chance 67 = .ok (.ladd, 1) := by decide +kernel
theorem dX6_chance_68 : decode cX6_chance 68 = .ok (.lreturn, 1) := by decide +kernel
theorem dX6_chance_69 : decode cX6_chance 69 = .ok (.lconst 0, 1) := by decide +kernel
theorem dX6_chance_70 : decode cX6_chance 70 = .ok (.lstore 6, 2) := by decide +kernel
theorem dX6_chance_72 : decode cX6_chance 72 = .ok (.iconst 0, 1) := by decide +kernel
theorem dX6_chance_73 : decode cX6_chance 73 = .ok (.istore 8, 2) := by decide +kernel
theorem dX6_chance_75 : decode cX6_chance 75 = .ok (.iload 8, 2) := by decide +kernel
theorem dX6_chance_77 : decode cX6_chance 77 = .ok (.iconst 1, 1) := by decide +kernel
theorem dX6_chance_78 : decode cX6_chance 78 = .ok (.iload_n 2, 1) := by decide +kernel
theorem dX6_chance_79 : decode cX6_chance 79 = .ok (.ishl, 1) := by decide +kernel
theorem dX6_chance_80 : decode cX6_chance 80 = .ok (.if_icmp .ge 157, 3) := by decide +kernel
theorem dX6_chance_83 : decode cX6_chance 83 = .ok (.aload_n 0, 1) := by decide +kernel
theorem dX6_chance_84 : decode cX6_chance 84 = .ok (.aload_n 0, 1) := by decide +kernel
theorem dX6_chance_85 : decode cX6_chance 85 = .ok (.getfield 74, 3) := by decide +kernel
theorem dX6_chance_88 : decode cX6_chance 88 = .ok (.iconst 0, 1) := by decide +kernel
theorem dX6_chance_89 : decode cX6_chance 89 = .ok (.bipush (-6), 2) := by decide +kernel
theorem dX6_chance_91 : decode cX6_chance 91 = .ok (.iconst 0, 1) := by decide +kernel
theorem dX6_chance_92 : decode cX6_chance 92 = .ok (.invokevirtual 146, 3) := by decide +kernel
