theorem dX3_leaveYard_69 : decode cX3_leaveYard 69 = .ok (.iload_n 2, 1) := by decide +kernel
theorem dX3_leaveYard_70 : decode cX3_leaveYard 70 = .ok (.putfield 51, 3) := by decide +kernel
theorem dX3_leaveYard_73 : decode cX3_leaveYard 73 = .ok (.return_, 1) := by decide +kernel
theorem dX3_bitOf_0 : decode cX3_bitOf 0 = .ok (.iload_n 0, 1) := by decide +kernel
theorem dX3_bitOf_1 : decode cX3_bitOf 1 = .ok (.ifCond .lt 15, 3) := by decide +kernel
theorem dX3_bitOf_4 : decode cX3_bitOf 4 = .ok (.iload_n 0, 1) := by decide +kernel
theorem dX3_bitOf_5 : decode cX3_bitOf 5 = .ok (.bipush 8, 2) := by decide +kernel
theorem dX3_bitOf_7 : decode cX3_bitOf 7 = .ok (.if_icmp .ge 9, 3) := by decide +kernel
theorem dX3_bitOf_10 : decode cX3_bitOf 10 = .ok (.iconst 1, 1) := by decide +kernel
theorem dX3_bitOf_11 : decode cX3_bitOf 11 = .ok (.iload_n 0, 1) := by decide +kernel
theorem dX3_bitOf_12 : decode cX3_bitOf 12 = .ok (.ishl, 1) := by decide +kernel
theorem dX3_bitOf_13 : decode cX3_bitOf 13 = .ok (.goto 4, 3) := by decide +kernel
theorem dX3_bitOf_16 : decode cX3_bitOf 16 = .ok (.iconst 0, 1) := by decide +kernel
theorem dX3_bitOf_17 : decode cX3_bitOf 17 = .ok (.ireturn, 1) := by decide +kernel
theorem dX3_isThere_0 : decode cX3_isThere 0 = .ok (.aload_n 0, 1) := by decide +kernel
theorem dX3_isThere_1 : decode cX3_isThere 1 = .ok (.getfield 45, 3) := by decide +kernel
theorem dX3_isThere_4 : decode cX3_isThere 4 = .ok (.iload_n 1, 1) := by decide +kernel
theorem dX3_isThere_5 : decode cX3_isThere 5 = .ok (.invokestatic 107, 3) := by decide +kernel
theorem dX3_isThere_8 : decode cX3_isThere 8 = .ok (.iand, 1) := by decide +kernel
theorem dX3_isThere_9 : decode cX3_isThere 9 = .ok (.ifCond .eq 7, 3) := by decide +kernel
theorem dX3_isThere_12 : decode cX3_isThere 12 = .ok (.iconst 1, 1) := by decide +kernel
theorem dX3_isThere_13 : decode cX3_isThere 13 = .ok (.goto 4, 3) := by decide +kernel
theorem dX3_isThere_16 : decode cX3_isThere 16 = .ok (.iconst 0, 1) := by decide +kernel
theorem dX3_isThere_17 : decode cX3_isThere 17 = .ok (.ireturn, 1) := by decide +kernel
theorem dX3_bedOf_0 : decode cX3_bedOf 0 = .ok (.iconst 0, 1) := by decide +kernel
theorem dX3_bedOf_1 : decode cX3_bedOf 1 = .ok (.istore_n 2, 1) := by decide +kernel
theorem dX3_bedOf_2 : decode cX3_bedOf 2 = .ok (.iload_n 2, 1) := by decide +kernel
theorem dX3_bedOf_3 : decode cX3_bedOf 3 = .ok (.bipush 8, 2) := by decide +kernel
theorem dX3_bedOf_5 : decode cX3_bedOf 5 = .ok (.if_icmp .ge 21, 3) := by decide +kernel
theorem dX3_bedOf_8 : decode cX3_bedOf 8 = .ok (.aload_n 0, 1) := by decide +kernel
theorem dX3_bedOf_9 : decode cX3_bedOf 9 = .ok (.getfield 9, 3) := by decide +kernel
theorem dX3_bedOf_12 : decode cX3_bedOf 12 = .ok (.iload_n 2, 1) := by decide +kernel
theorem dX3_bedOf_13 : decode cX3_bedOf 13 = .ok (.iaload, 1) := by decide +kernel
theorem dX3_bedOf_14 : decode cX3_bedOf 14 = .ok (.iload_n 1, 1) := by decide +kernel
theorem dX3_bedOf_15 : decode cX3_bedOf 15 = .ok (.if_icmp .ne 5, 3) := by decide +kernel
theorem dX3_bedOf_18 : decode cX3_bedOf 18 = .ok (.iload_n 2, 1) := by decide +kernel
theorem dX3_bedOf_19 : decode cX3_bedOf 19 = .ok (.ireturn, 1) := by decide +kernel
theorem dX3_bedOf_20 : decode cX3_bedOf 20 = .ok (.iinc 2 1, 3) := by decide +kernel
theorem dX3_bedOf_23 : decode cX3_bedOf 23 = .ok (.goto (-21), 3) := by decide +kernel
theorem dX3_bedOf_26 : decode cX3_bedOf 26 = .ok (.iconst (-1), 1) := by decide +kernel
theorem dX3_bedOf_27 : decode cX3_bedOf 27 = .ok (.ireturn, 1) := by decide +kernel
theorem dX3_sleeperOf_0 : decode cX3_sleeperOf 0 = .ok (.iload_n 1, 1) := by decide +kernel
theorem dX3_sleeperOf_1 : decode cX3_sleeperOf 1 = .ok (.ifCond .lt 18, 3) := by decide +kernel
theorem dX3_sleeperOf_4 : decode cX3_sleeperOf 4 = .ok (.iload_n 1, 1) := by decide +kernel
theorem dX3_sleeperOf_5 : decode cX3_sleeperOf 5 = .ok (.bipush 8, 2) := by decide +kernel
theorem dX3_sleeperOf_7 : decode cX3_sleeperOf 7 = .ok (.if_icmp .ge 12, 3) := by decide +kernel
theorem dX3_sleeperOf_10 : decode cX3_sleeperOf 10 = .ok (.aload_n 0, 1) := by decide +kernel
theorem dX3_sleeperOf_11 : decode cX3_sleeperOf 11 = .ok (.getfield 9, 3) := by decide +kernel
theorem dX3_sleeperOf_14 : decode cX3_sleeperOf 14 = .ok (.iload_n 1, 1) := by decide +kernel
theorem dX3_sleeperOf_15 : decode cX3_sleeperOf 15 = .ok (.iaload, 1) := by decide +kernel
theorem dX3_sleeperOf_16 : decode cX3_sleeperOf 16 = .ok (.goto 4, 3) := by decide +kernel
theorem dX3_sleeperOf_19 : decode cX3_sleeperOf 19 = .ok (.iconst (-1), 1) := by decide +kernel
theorem dX3_sleeperOf_20 : decode cX3_sleeperOf 20 = .ok (.ireturn, 1) := by decide +kernel
theorem dX3_emptyBed_0 : decode cX3_emptyBed 0 = .ok (.iload_n 1, 1) := by decide +kernel
theorem dX3_emptyBed_1 : decode cX3_emptyBed 1 = .ok (.ifCond .lt 20, 3) := by decide +kernel
theorem dX3_emptyBed_4 : decode cX3_emptyBed 4 = .ok (.iload_n 1, 1) := by decide +kernel
theorem dX3_emptyBed_5 : decode cX3_emptyBed 5 = .ok (.aload_n 0, 1) := by decide +kernel
theorem dX3_emptyBed_6 : decode cX3_emptyBed 6 = .ok (.getfield 48, 3) := by decide +kernel
theorem dX3_emptyBed_9 : decode cX3_emptyBed 9 = .ok (.if_icmp .ge 12, 3) := by decide +kernel
theorem dX3_emptyBed_12 : decode cX3_emptyBed 12 = .ok (.aload_n 0, 1) := by decide +kernel
theorem dX3_emptyBed_13 : decode cX3_emptyBed 13 = .ok (.getfield 48, 3) := by decide +kernel
theorem dX3_emptyBed_16 : decode cX3_emptyBed 16 = .ok (.bipush 8, 2) := by decide +kernel
theorem dX3_emptyBed_18 : decode cX3_emptyBed 18 = .ok (.if_icmp .le 6, 3) := by decide +kernel
theorem dX3_emptyBed_21 : decode cX3_emptyBed 21 = .ok (.bipush (-6), 2) := by decide +kernel
theorem dX3_emptyBed_23 : decode cX3_emptyBed 23 = .ok (.ireturn, 1) := by decide +kernel
theorem dX3_emptyBed_24 : decode cX3_emptyBed 24 = .ok (.aload_n 0, 1) := by decide +kernel
theorem dX3_emptyBed_25 : decode cX3_emptyBed 25 = .ok (.getfield 15, 3) := by decide +kernel
theorem dX3_emptyBed_28 : decode cX3_emptyBed 28 = .ok (.aload_n 0, 1) := by decide +kernel
theorem dX3_emptyBed_29 : decode cX3_emptyBed 29 = .ok (.getfield 48, 3) := by decide +kernel
theorem dX3_emptyBed_32 : decode cX3_emptyBed 32 = .ok (.iconst 1, 1) := by decide +kernel
theorem dX3_emptyBed_33 : decode cX3_emptyBed 33 = .ok (.isub, 1) := by decide +kernel
theorem dX3_emptyBed_34 : decode cX3_emptyBed 34 = .ok (.iload_n 1, 1) := by decide +kernel
theorem dX3_emptyBed_35 : decode cX3_emptyBed 35 = .ok (.isub, 1) := by decide +kernel
theorem dX3_emptyBed_36 : decode cX3_emptyBed 36 = .ok (.iaload, 1) := by decide +kernel
theorem dX3_emptyBed_37 : decode cX3_emptyBed 37 = .ok (.ireturn, 1) := by decide +kernel
theorem dX3_timesUsed_0 : decode cX3_timesUsed 0 = .ok (.iload_n 1, 1) := by decide +kernel
theorem dX3_timesUsed_1 : decode cX3_timesUsed 1 = .ok (.ifCond .lt 18, 3) := by decide +kernel
theorem dX3_timesUsed_4 : decode cX3_timesUsed 4 = .ok (.iload_n 1, 1) := by decide +kernel
theorem dX3_timesUsed_5 : decode cX3_timesUsed 5 = .ok (.bipush 8, 2) := by decide +kernel
theorem dX3_timesUsed_7 : decode cX3_timesUsed 7 = .ok (.if_icmp .ge 12, 3) := by decide +kernel
theorem dX3_timesUsed_10 : decode cX3_timesUsed 10 = .ok (.aload_n 0, 1) := by decide +kernel
theorem dX3_timesUsed_11 : decode cX3_timesUsed 11 = .ok (.getfield 24, 3) := by decide +kernel
theorem dX3_timesUsed_14 : decode cX3_timesUsed 14 = .ok (.iload_n 1, 1) := by decide +kernel
theorem dX3_timesUsed_15 : decode cX3_timesUsed 15 = .ok (.iaload, 1) := by decide +kernel
theorem dX3_timesUsed_16 : decode cX3_timesUsed 16 = .ok (.goto 4, 3) := by decide +kernel
theorem dX3_timesUsed_19 : decode cX3_timesUsed 19 = .ok (.iconst 0, 1) := by decide +kernel
theorem dX3_timesUsed_20 : decode cX3_timesUsed 20 = .ok (.ireturn, 1) := by decide +kernel
theorem dX3_countOf_0 : decode cX3_countOf 0 = .ok (.iload_n 1, 1) := by decide +kernel
theorem dX3_countOf_1 : decode cX3_countOf 1 = .ok (.ifCond .lt 9, 3) := by decide +kernel
theorem dX3_countOf_4 : decode cX3_countOf 4 = .ok (.iload_n 1, 1) := by decide +kernel
theorem dX3_countOf_5 : decode cX3_countOf 5 = .ok (.bipush 8, 2) := by decide +kernel
theorem dX3_countOf_7 : decode cX3_countOf 7 = .ok (.if_icmp .lt 5, 3) := by decide +kernel
theorem dX3_countOf_10 : decode cX3_countOf 10 = .ok (.iconst 0, 1) := by decide +kernel
theorem dX3_countOf_11 : decode cX3_countOf 11 = .ok (.ireturn, 1) := by decide +kernel
theorem dX3_countOf_12 : decode cX3_countOf 12 = .ok (.iload_n 2, 1) := by decide +kernel
theorem dX3_countOf_13 : decode cX3_countOf 13 = .ok (.lookupswitch 41 #[(0, 27), (1, 34)], 27) := by decide +kernel
theorem dX3_countOf_40 : decode cX3_countOf 40 = .ok (.aload_n 0, 1) := by decide +kernel
theorem dX3_countOf_41 : decode cX3_countOf 41 = .ok (.getfield 21, 3) := by decide +kernel
theorem dX3_countOf_44 : decode cX3_countOf 44 = .ok (.iload_n 1, 1) := by decide +kernel
theorem dX3_countOf_45 : decode cX3_countOf 45 = .ok (.iaload, 1) := by decide +kernel
theorem dX3_countOf_46 : decode cX3_countOf 46 = .ok (.ireturn, 1) := by decide +kernel
theorem dX3_countOf_47 : decode cX3_countOf 47 = .ok (.aload_n 0, 1) := by decide +kernel
theorem dX3_countOf_48 : decode cX3_countOf 48 = .ok (.getfield 24, 3) := by decide +kernel
theorem dX3_countOf_51 : decode cX3_countOf 51 = .ok (.iload_n 1, 1) := by decide +kernel
theorem dX3_countOf_52 : decode cX3_countOf 52 = .ok (.iaload, 1) := by decide +kernel
theorem dX3_countOf_53 : decode cX3_countOf 53 = .ok (.ireturn, 1) := by decide +kernel
theorem dX3_countOf_54 : decode cX3_countOf 54 = .ok (.aload_n 0, 1) := by decide +kernel
theorem dX3_countOf_55 : decode cX3_countOf 55 = .ok (.getfield 27, 3) := by decide +kernel
theorem dX3_countOf_58 : decode cX3_countOf 58 = .ok (.iload_n 1, 1) := by decide +kernel
theorem dX3_countOf_59 : decode cX3_countOf 59 = .ok (.iaload, 1) := by decide +kernel
theorem dX3_countOf_60 : decode cX3_countOf 60 = .ok (.ireturn, 1) := by decide +kernel
theorem dX3_allSheets_0 : decode cX3_allSheets 0 = .ok (.iconst 0, 1) := by decide +kernel
theorem dX3_allSheets_1 : decode cX3_allSheets 1 = .ok (.istore_n 1, 1) := by decide +kernel
theorem dX3_allSheets_2 : decode cX3_allSheets 2 = .ok (.iconst 0, 1) := by decide +kernel
theorem dX3_allSheets_3 : decode cX3_allSheets 3 = .ok (.istore_n 2, 1) := by decide +kernel
theorem dX3_allSheets_4 : decode cX3_allSheets 4 = .ok (.iload_n 2, 1) := by decide +kernel
theorem dX3_allSheets_5 : decode cX3_allSheets 5 = .ok (.bipush 8, 2) := by decide +kernel
theorem dX3_allSheets_7 : decode cX3_allSheets 7 = .ok (.if_icmp .ge 18, 3) := by decide +kernel
theorem dX3_allSheets_10 : decode cX3_allSheets 10 = .ok (.iload_n 1, 1) := by decide +kernel
theorem dX3_allSheets_11 : decode cX3_allSheets 11 = .ok (.aload_n 0, 1) := by decide +kernel
theorem dX3_allSheets_12 : decode cX3_allSheets 12 = .ok (.getfield 27, 3) := by decide +kernel
theorem dX3_allSheets_15 : decode cX3_allSheets 15 = .ok (.iload_n 2, 1) := by decide +kernel
theorem dX3_allSheets_16 : decode cX3_allSheets 16 = .ok (.iaload, 1) := by decide +kernel
theorem dX3_allSheets_17 : decode cX3_allSheets 17 = .ok (.iadd, 1) := by decide +kernel
theorem dX3_allSheets_18 : decode cX3_allSheets 18 = .ok (.istore_n 1, 1) := by decide +kernel
theorem dX3_allSheets_19 : decode cX3_allSheets 19 = .ok (.iinc 2 1, 3) := by decide +kernel
theorem dX3_allSheets_22 : decode cX3_allSheets 22 = .ok (.goto (-18), 3) := by decide +kernel
theorem dX3_allSheets_25 : decode cX3_allSheets 25 = .ok (.iload_n 1, 1) := by decide +kernel
theorem dX3_allSheets_26 : decode cX3_allSheets 26 = .ok (.ireturn, 1) := by decide +kernel
theorem dX4_init_0 : decode cX4_init 0 = .ok (.aload_n 0, 1) := by decide +kernel
theorem dX4_init_1 : decode cX4_init 1 = .ok (.invokespecial 3, 3) := by decide +kernel
theorem dX4_init_4 : decode cX4_init 4 = .ok (.aload_n 0, 1) := by decide +kernel
theorem dX4_init_5 : decode cX4_init 5 = .ok (.bipush 6, 2) := by decide +kernel
theorem dX4_init_7 : decode cX4_init 7 = .ok (.newarray .int, 2) := by decide +kernel
theorem dX4_init_9 : decode cX4_init 9 = .ok (.putfield 9, 3) := by decide +kernel
theorem dX4_init_12 : decode cX4_init 12 = .ok (.aload_n 0, 1) := by decide +kernel
theorem dX4_init_13 : decode cX4_init 13 = .ok (.bipush 6, 2) := by decide +kernel
theorem dX4_init_15 : decode cX4_init 15 = .ok (.newarray .int, 2) := by decide +kernel
theorem dX4_init_17 : decode cX4_init 17 = .ok (.putfield 15, 3) := by decide +kernel
theorem dX4_init_20 : decode cX4_init 20 = .ok (.return_, 1) := by decide +kernel
theorem dX4_order_0 : decode cX4_order 0 = .ok (.aload_n 0, 1) := by decide +kernel
theorem dX4_order_1 : decode cX4_order 1 = .ok (.iconst (-1), 1) := by decide +kernel
theorem dX4_order_2 : decode cX4_order 2 = .ok (.putfield 18, 3) := by decide +kernel
theorem dX4_order_5 : decode cX4_order 5 = .ok (.aload_n 0, 1) := by decide +kernel
theorem dX4_order_6 : decode cX4_order 6 = .ok (.iload_n 2, 1) := by decide +kernel
theorem dX4_order_7 : decode cX4_order 7 = .ok (.invokestatic 22, 3) := by decide +kernel
theorem dX4_order_10 : decode cX4_order 10 = .ok (.putfield 28, 3) := by decide +kernel
theorem dX4_order_13 : decode cX4_order 13 = .ok (.aload_n 0, 1) := by decide +kernel
theorem dX4_order_14 : decode cX4_order 14 = .ok (.aload_n 1, 1) := by decide +kernel
theorem dX4_order_15 : decode cX4_order 15 = .ok (.iload_n 2, 1) := by decide +kernel
theorem dX4_order_16 : decode cX4_order 16 = .ok (.iconst 0, 1) := by decide +kernel
theorem dX4_order_17 : decode cX4_order 17 = .ok (.iconst 0, 1) := by decide +kernel
theorem dX4_order_18 : decode cX4_order 18 = .ok (.invokestatic 31, 3) := by decide +kernel
theorem dX4_order_21 : decode cX4_order 21 = .ok (.return_, 1) := by decide +kernel
theorem dX4_letIn_0 : decode cX4_letIn 0 = .ok (.iload_n 2, 1) := by decide +kernel
theorem dX4_letIn_1 : decode cX4_letIn 1 = .ok (.ifCond .ne 10, 3) := by decide +kernel
theorem dX4_letIn_4 : decode cX4_letIn 4 = .ok (.aload_n 0, 1) := by decide +kernel
theorem dX4_letIn_5 : decode cX4_letIn 5 = .ok (.iload 4, 2) := by decide +kernel
theorem dX4_letIn_7 : decode cX4_letIn 7 = .ok (.invokevirtual 35, 3) := by decide +kernel
theorem dX4_letIn_10 : decode cX4_letIn 10 = .ok (.return_, 1) := by decide +kernel
theorem dX4_letIn_11 : decode cX4_letIn 11 = .ok (.aload_n 1, 1) := by decide +kernel
theorem dX4_letIn_12 : decode cX4_letIn 12 = .ok (.getfield 39, 3) := by decide +kernel
theorem dX4_letIn_15 : decode cX4_letIn 15 = .ok (.astore 5, 2) := by decide +kernel
theorem dX4_letIn_17 : decode cX4_letIn 17 = .ok (.aload 5, 2) := by decide +kernel
theorem dX4_letIn_19 : decode cX4_letIn 19 = .ok (.ifnull 13, 3) := by decide +kernel
theorem dX4_letIn_22 : decode cX4_letIn 22 = .ok (.iload_n 3, 1) := by decide +kernel
theorem dX4_letIn_23 : decode cX4_letIn 23 = .ok (.ifCond .lt 9, 3) := by decide +kernel
theorem dX4_letIn_26 : decode cX4_letIn 26 = .ok (.iload_n 3, 1) := by decide +kernel
theorem dX4_letIn_27 : decode cX4_letIn 27 = .ok (.bipush 6, 2) := by decide +kernel
theorem dX4_letIn_29 : decode cX4_letIn 29 = .ok (.if_icmp .lt 4, 3) := by decide +kernel
theorem dX4_letIn_32 : decode cX4_letIn 32 = .ok (.return_, 1) := by decide +kernel
theorem dX4_letIn_33 : decode cX4_letIn 33 = .ok (.iconst 0, 1) := by decide +kernel
theorem dX4_letIn_34 : decode cX4_letIn 34 = .ok (.istore 6, 2) := by decide +kernel
theorem dX4_letIn_36 : decode cX4_letIn 36 = .ok (.iload 6, 2) := by decide +kernel
theorem dX4_letIn_38 : decode cX4_letIn 38 = .ok (.bipush 8, 2) := by decide +kernel
theorem dX4_letIn_40 : decode cX4_letIn 40 = .ok (.if_icmp .ge 80, 3) := by decide +kernel
theorem dX4_letIn_43 : decode cX4_letIn 43 = .ok (.iload_n 2, 1) := by decide +kernel
theorem dX4_letIn_44 : decode cX4_letIn 44 = .ok (.iconst 1, 1) := by decide +kernel
theorem dX4_letIn_45 : decode cX4_letIn 45 = .ok (.iload 6, 2) := by decide +kernel
theorem dX4_letIn_47 : decode cX4_letIn 47 = .ok (.ishl, 1) := by decide +kernel
theorem dX4_letIn_48 : decode cX4_letIn 48 = .ok (.iand, 1) := by decide +kernel
theorem dX4_letIn_49 : decode cX4_letIn 49 = .ok (.ifCond .eq 65, 3) := by decide +kernel
theorem dX4_letIn_52 : decode cX4_letIn 52 = .ok (.aload 5, 2) := by decide +kernel
theorem dX4_letIn_54 : decode cX4_letIn 54 = .ok (.aload_n 1, 1) := by decide +kernel
theorem dX4_letIn_55 : decode cX4_letIn 55 = .ok (.invokevirtual 45, 3) := by decide +kernel
theorem dX4_letIn_58 : decode cX4_letIn 58 = .ok (.aload 5, 2) := by decide +kernel
theorem dX4_letIn_60 : decode cX4_letIn 60 = .ok (.iload 6, 2) := by decide +kernel
theorem dX4_letIn_62 : decode cX4_letIn 62 = .ok (.invokevirtual 49, 3) := by decide +kernel
theorem dX4_letIn_65 : decode cX4_letIn 65 = .ok (.aload_n 0, 1) := by decide +kernel
theorem dX4_letIn_66 : decode cX4_letIn 66 = .ok (.getfield 15, 3) := by decide +kernel
theorem dX4_letIn_69 : decode cX4_letIn 69 = .ok (.iload_n 3, 1) := by decide +kernel
theorem dX4_letIn_70 : decode cX4_letIn 70 = .ok (.iload 6, 2) := by decide +kernel
theorem dX4_letIn_72 : decode cX4_letIn 72 = .ok (.iastore, 1) := by decide +kernel
theorem dX4_letIn_73 : decode cX4_letIn 73 = .ok (.aload 5, 2) := by decide +kernel
theorem dX4_letIn_75 : decode cX4_letIn 75 = .ok (.getfield 52, 3) := by decide +kernel
theorem dX4_letIn_78 : decode cX4_letIn 78 = .ok (.iload 6, 2) := by decide +kernel
theorem dX4_letIn_80 : decode cX4_letIn 80 = .ok (.aload 5, 2) := by decide +kernel
theorem dX4_letIn_82 : decode cX4_letIn 82 = .ok (.iload 6, 2) := by decide +kernel
theorem dX4_letIn_84 : decode cX4_letIn 84 = .ok (.invokevirtual 56, 3) := by decide +kernel
theorem dX4_letIn_87 : decode cX4_letIn 87 = .ok (.invokevirtual 59, 3) := by decide +kernel
theorem dX4_letIn_90 : decode cX4_letIn 90 = .ok (.istore 7, 2) := by decide +kernel
theorem dX4_letIn_92 : decode cX4_letIn 92 = .ok (.aload_n 0, 1) := by decide +kernel
theorem dX4_letIn_93 : decode cX4_letIn 93 = .ok (.aload 5, 2) := by decide +kernel
theorem dX4_letIn_95 : decode cX4_letIn 95 = .ok (.iload_n 2, 1) := by decide +kernel
theorem dX4_letIn_96 : decode cX4_letIn 96 = .ok (.iconst 1, 1) := by decide +kernel
theorem dX4_letIn_97 : decode cX4_letIn 97 = .ok (.iload 6, 2) := by decide +kernel
theorem dX4_letIn_99 : decode cX4_letIn 99 = .ok (.ishl, 1) := by decide +kernel
theorem dX4_letIn_100 : decode cX4_letIn 100 = .ok (.iconst (-1), 1) := by decide +kernel
theorem dX4_letIn_101 : decode cX4_letIn 101 = .ok (.ixor, 1) := by decide +kernel
theorem dX4_letIn_102 : decode cX4_letIn 102 = .ok (.iand, 1) := by decide +kernel
theorem dX4_letIn_103 : decode cX4_letIn 103 = .ok (.iload_n 3, 1) := by decide +kernel
theorem dX4_letIn_104 : decode cX4_letIn 104 = .ok (.iconst 1, 1) := by decide +kernel
theorem dX4_letIn_105 : decode cX4_letIn 105 = .ok (.iadd, 1) := by decide +kernel
theorem dX4_letIn_106 : decode cX4_letIn 106 = .ok (.iload 4, 2) := by decide +kernel
theorem dX4_letIn_108 : decode cX4_letIn 108 = .ok (.iload 7, 2) := by decide +kernel
theorem dX4_letIn_110 : decode cX4_letIn 110 = .ok (.iadd, 1) := by decide +kernel
theorem dX4_letIn_111 : decode cX4_letIn 111 = .ok (.invokestatic 31, 3) := by decide +kernel
theorem dX4_letIn_114 : decode cX4_letIn 114 = .ok (.iinc 6 1, 3) := by decide +kernel
theorem dX4_letIn_117 : decode cX4_letIn 117 = .ok (.goto (-81), 3) := by decide +kernel
theorem dX4_letIn_120 : decode cX4_letIn 120 = .ok (.return_, 1) := by decide +kernel
theorem dX4_keepIfBetter_0 : decode cX4_keepIfBetter 0 = .ok (.iload_n 1, 1) := by decide +kernel
theorem dX4_keepIfBetter_1 : decode cX4_keepIfBetter 1 = .ok (.aload_n 0, 1) := by decide +kernel
theorem dX4_keepIfBetter_2 : decode cX4_keepIfBetter 2 = .ok (.getfield 18, 3) := by decide +kernel
theorem dX4_keepIfBetter_5 : decode cX4_keepIfBetter 5 = .ok (.if_icmp .le 23, 3) := by decide +kernel
theorem dX4_keepIfBetter_8 : decode cX4_keepIfBetter 8 = .ok (.aload_n 0, 1) := by decide +kernel
theorem dX4_keepIfBetter_9 : decode cX4_keepIfBetter 9 = .ok (.iload_n 1, 1) := by decide +kernel
theorem dX4_keepIfBetter_10 : decode cX4_keepIfBetter 10 = .ok (.putfield 18, 3) := by decide +kernel
theorem dX4_keepIfBetter_13 : decode cX4_keepIfBetter 13 = .ok (.aload_n 0, 1) := by decide +kernel
theorem dX4_keepIfBetter_14 : decode cX4_keepIfBetter 14 = .ok (.getfield 15, 3) := by decide +kernel
theorem dX4_keepIfBetter_17 : decode cX4_keepIfBetter 17 = .ok (.iconst 0, 1) := by decide +kernel
theorem dX4_keepIfBetter_18 : decode cX4_keepIfBetter 18 = .ok (.aload_n 0, 1) := by decide +kernel
theorem dX4_keepIfBetter_19 : decode cX4_keepIfBetter 19 = .ok (.getfield 9, 3) := by decide +kernel
theorem dX4_keepIfBetter_22 : decode cX4_keepIfBetter 22 = .ok (.iconst 0, 1) := by decide +kernel
theorem dX4_keepIfBetter_23 : decode cX4_keepIfBetter 23 = .ok (.bipush 6, 2) := by decide +kernel
theorem dX4_keepIfBetter_25 : decode cX4_keepIfBetter 25 = .ok (.invokestatic 65, 3) := by decide +kernel
theorem dX4_keepIfBetter_28 : decode cX4_keepIfBetter 28 = .ok (.return_, 1) := by decide +kernel
theorem dX4_guestAt_0 : decode cX4_guestAt 0 = .ok (.iload_n 1, 1) := by decide +kernel
theorem dX4_guestAt_1 : decode cX4_guestAt 1 = .ok (.ifCond .lt 26, 3) := by decide +kernel
theorem dX4_guestAt_4 : decode cX4_guestAt 4 = .ok (.iload_n 1, 1) := by decide +kernel
theorem dX4_guestAt_5 : decode cX4_guestAt 5 = .ok (.aload_n 0, 1) := by decide +kernel
theorem dX4_guestAt_6 : decode cX4_guestAt 6 = .ok (.getfield 28, 3) := by decide +kernel
theorem dX4_guestAt_9 : decode cX4_guestAt 9 = .ok (.if_icmp .ge 18, 3) := by decide +kernel
theorem dX4_guestAt_12 : decode cX4_guestAt 12 = .ok (.iload_n 1, 1) := by decide +kernel
theorem dX4_guestAt_13 : decode cX4_guestAt 13 = .ok (.bipush 6, 2) := by decide +kernel
theorem dX4_guestAt_15 : decode cX4_guestAt 15 = .ok (.if_icmp .ge 12, 3) := by decide +kernel
theorem dX4_guestAt_18 : decode cX4_guestAt 18 = .ok (.aload_n 0, 1) := by decide +kernel
theorem dX4_guestAt_19 : decode cX4_guestAt 19 = .ok (.getfield 9, 3) := by decide +kernel
theorem dX4_guestAt_22 : decode cX4_guestAt 22 = .ok (.iload_n 1, 1) := by decide +kernel
theorem dX4_guestAt_23 : decode cX4_guestAt 23 = .ok (.iaload, 1) := by decide +kernel
theorem dX4_guestAt_24 : decode cX4_guestAt 24 = .ok (.goto 5, 3) := by decide +kernel
theorem dX4_guestAt_27 : decode cX4_guestAt 27 = .ok (.bipush (-6), 2) := by decide +kernel
theorem dX4_guestAt_29 : decode cX4_guestAt 29 = .ok (.ireturn, 1) := by decide +kernel
theorem dX5_init_0 : decode cX5_init 0 = .ok (.aload_n 0, 1) := by decide +kernel
theorem dX5_init_1 : decode cX5_init 1 = .ok (.invokespecial 3, 3) := by decide +kernel
theorem dX5_init_4 : decode cX5_init 4 = .ok (.aload_n 0, 1) := by decide +kernel
theorem dX5_init_5 : decode cX5_init 5 = .ok (.new 9, 3) := by decide +kernel
theorem dX5_init_8 : decode cX5_init 8 = .ok (.dup, 1) := by decide +kernel
theorem dX5_init_9 : decode cX5_init 9 = .ok (.invokespecial 11, 3) := by decide +kernel
theorem dX5_init_12 : decode cX5_init 12 = .ok (.putfield 12, 3) := by decide +kernel
theorem dX5_init_15 : decode cX5_init 15 = .ok (.aload_n 0, 1) := by decide +kernel
theorem dX5_init_16 : decode cX5_init 16 = .ok (.new 9, 3) := by decide +kernel
theorem dX5_init_19 : decode cX5_init 19 = .ok (.dup, 1) := by decide +kernel
theorem dX5_init_20 : decode cX5_init 20 = .ok (.invokespecial 11, 3) := by decide +kernel
theorem dX5_init_23 : decode cX5_init 23 = .ok (.putfield 16, 3) := by decide +kernel
theorem dX5_init_26 : decode cX5_init 26 = .ok (.aload_n 0, 1) := by decide +kernel
theorem dX5_init_27 : decode cX5_init 27 = .ok (.new 9, 3) := by decide +kernel
theorem dX5_init_30 : decode cX5_init 30 = .ok (.dup, 1) := by decide +kernel
theorem dX5_init_31 : decode cX5_init 31 = .ok (.invokespecial 11, 3) := by decide +kernel
theorem dX5_init_34 : decode cX5_init 34 = .ok (.putfield 19, 3) := by decide +kernel
theorem dX5_init_37 : decode cX5_init 37 = .ok (.aload_n 0, 1) := by decide +kernel
theorem dX5_init_38 : decode cX5_init 38 = .ok (.new 22, 3) := by decide +kernel
theorem dX5_init_41 : decode cX5_init 41 = .ok (.dup, 1) := by decide +kernel
theorem dX5_init_42 : decode cX5_init 42 = .ok (.invokespecial 24, 3) := by decide +kernel
theorem dX5_init_45 : decode cX5_init 45 = .ok (.putfield 25, 3) := by decide +kernel
theorem dX5_init_48 : decode cX5_init 48 = .ok (.aload_n 0, 1) := by decide +kernel
theorem dX5_init_49 : decode cX5_init 49 = .ok (.new 29, 3) := by decide +kernel
theorem dX5_init_52 : decode cX5_init 52 = .ok (.dup, 1) := by decide +kernel
theorem dX5_init_53 : decode cX5_init 53 = .ok (.invokespecial 31, 3) := by decide +kernel
theorem dX5_init_56 : decode cX5_init 56 = .ok (.putfield 32, 3) := by decide +kernel
theorem dX5_init_59 : decode cX5_init 59 = .ok (.aload_n 0, 1) := by decide +kernel
theorem dX5_init_60 : decode cX5_init 60 = .ok (.new 36, 3) := by decide +kernel
theorem dX5_init_63 : decode cX5_init 63 = .ok (.dup, 1) := by decide +kernel
theorem dX5_init_64 : decode cX5_init 64 = .ok (.invokespecial 38, 3) := by decide +kernel
theorem dX5_init_67 : decode cX5_init 67 = .ok (.putfield 39, 3) := by decide +kernel
theorem dX5_init_70 : decode cX5_init 70 = .ok (.aload_n 0, 1) := by decide +kernel
theorem dX5_init_71 : decode cX5_init 71 = .ok (.bipush 48, 2) := by decide +kernel
theorem dX5_init_73 : decode cX5_init 73 = .ok (.newarray .int, 2) := by decide +kernel
theorem dX5_init_75 : decode cX5_init 75 = .ok (.putfield 43, 3) := by decide +kernel
theorem dX5_init_78 : decode cX5_init 78 = .ok (.new 47, 3) := by decide +kernel
theorem dX5_init_81 : decode cX5_init 81 = .ok (.dup, 1) := by decide +kernel
theorem dX5_init_82 : decode cX5_init 82 = .ok (.aload_n 0, 1) := by decide +kernel
theorem dX5_init_83 : decode cX5_init 83 = .ok (.getfield 12, 3) := by decide +kernel
theorem dX5_init_86 : decode cX5_init 86 = .ok (.aconst_null, 1) := by decide +kernel
theorem dX5_init_87 : decode cX5_init 87 = .ok (.invokespecial 49, 3) := by decide +kernel
theorem dX5_init_90 : decode cX5_init 90 = .ok (.astore_n 1, 1) := by decide +kernel
theorem dX5_init_91 : decode cX5_init 91 = .ok (.iconst 0, 1) := by decide +kernel
theorem dX5_init_92 : decode cX5_init 92 = .ok (.istore_n 2, 1) := by decide +kernel
theorem dX5_init_93 : decode cX5_init 93 = .ok (.iload_n 2, 1) := by decide +kernel
theorem dX5_init_94 : decode cX5_init 94 = .ok (.bipush 8, 2) := by decide +kernel
theorem dX5_init_96 : decode cX5_init 96 = .ok (.if_icmp .ge 22, 3) := by decide +kernel
theorem dX5_init_99 : decode cX5_init 99 = .ok (.new 47, 3) := by decide +kernel
theorem dX5_init_102 : decode cX5_init 102 = .ok (.dup, 1) := by decide +kernel
theorem dX5_init_103 : decode cX5_init 103 = .ok (.aload_n 0, 1) := by decide +kernel
theorem dX5_init_104 : decode cX5_init 104 = .ok (.getfield 12, 3) := by decide +kernel
theorem dX5_init_107 : decode cX5_init 107 = .ok (.aload_n 1, 1) := by decide +kernel
theorem dX5_init_108 : decode cX5_init 108 = .ok (.invokespecial 49, 3) := by decide +kernel
theorem dX5_init_111 : decode cX5_init 111 = .ok (.astore_n 1, 1) := by decide +kernel
theorem dX5_init_112 : decode cX5_init 112 = .ok (.iinc 2 1, 3) := by decide +kernel
theorem dX5_init_115 : decode cX5_init 115 = .ok (.goto (-22), 3) := by decide +kernel
theorem dX5_init_118 : decode cX5_init 118 = .ok (.aload_n 0, 1) := by decide +kernel
theorem dX5_init_119 : decode cX5_init 119 = .ok (.aload_n 1, 1) := by decide +kernel
theorem dX5_init_120 : decode cX5_init 120 = .ok (.putfield 52, 3) := by decide +kernel
theorem dX5_init_123 : decode cX5_init 123 = .ok (.return_, 1) := by decide +kernel
theorem dX5_beds_0 : decode cX5_beds 0 = .ok (.iload_n 1, 1) := by decide +kernel
theorem dX5_beds_1 : decode cX5_beds 1 = .ok (.iconst 2, 1) := by decide +kernel
theorem dX5_beds_2 : decode cX5_beds 2 = .ok (.if_icmp .lt 9, 3) := by decide +kernel
theorem dX5_beds_5 : decode cX5_beds 5 = .ok (.iload_n 1, 1) := by decide +kernel
theorem dX5_beds_6 : decode cX5_beds 6 = .ok (.bipush 8, 2) := by decide +kernel
theorem dX5_beds_8 : decode cX5_beds 8 = .ok (.if_icmp .le 6, 3) := by decide +kernel
theorem dX5_beds_11 : decode cX5_beds 11 = .ok (.bipush (-2), 2) := by decide +kernel
theorem dX5_beds_13 : decode cX5_beds 13 = .ok (.ireturn, 1) := by decide +kernel
theorem dX5_beds_14 : decode cX5_beds 14 = .ok (.aload_n 0, 1) := by decide +kernel
theorem dX5_beds_15 : decode cX5_beds 15 = .ok (.getfield 12, 3) := by decide +kernel
theorem dX5_beds_18 : decode cX5_beds 18 = .ok (.getfield 56, 3) := by decide +kernel
theorem dX5_beds_21 : decode cX5_beds 21 = .ok (.istore_n 2, 1) := by decide +kernel
theorem dX5_beds_22 : decode cX5_beds 22 = .ok (.aload_n 0, 1) := by decide +kernel
theorem dX5_beds_23 : decode cX5_beds 23 = .ok (.getfield 12, 3) := by decide +kernel
theorem dX5_beds_26 : decode cX5_beds 26 = .ok (.iload_n 1, 1) := by decide +kernel
theorem dX5_beds_27 : decode cX5_beds 27 = .ok (.invokevirtual 60, 3) := by decide +kernel
theorem dX5_beds_30 : decode cX5_beds 30 = .ok (.iload_n 2, 1) := by decide +kernel
theorem dX5_beds_31 : decode cX5_beds 31 = .ok (.ireturn, 1) := by decide +kernel
theorem dX5_worth_0 : decode cX5_worth 0 = .ok (.iload_n 1, 1) := by decide +kernel
theorem dX5_worth_1 : decode cX5_worth 1 = .ok (.invokestatic 64, 3) := by decide +kernel
theorem dX5_worth_4 : decode cX5_worth 4 = .ok (.ifCond .eq 11, 3) := by decide +kernel
theorem dX5_worth_7 : decode cX5_worth 7 = .ok (.aload_n 0, 1) := by decide +kernel
theorem dX5_worth_8 : decode cX5_worth 8 = .ok (.iload_n 2, 1) := by decide +kernel
theorem dX5_worth_9 : decode cX5_worth 9 = .ok (.invokevirtual 68, 3) := by decide +kernel
theorem dX5_worth_12 : decode cX5_worth 12 = .ok (.ifCond .ne 5, 3) := by decide +kernel
theorem dX5_worth_15 : decode cX5_worth 15 = .ok (.iconst (-1), 1) := by decide +kernel
theorem dX5_worth_16 : decode cX5_worth 16 = .ok (.ireturn, 1) := by decide +kernel
theorem dX5_worth_17 : decode cX5_worth 17 = .ok (.iload_n 3, 1) := by decide +kernel
theorem dX5_worth_18 : decode cX5_worth 18 = .ok (.ifCond .lt 9, 3) := by decide +kernel
theorem dX5_worth_21 : decode cX5_worth 21 = .ok (.iload_n 3, 1) := by decide +kernel
theorem dX5_worth_22 : decode cX5_worth 22 = .ok (.bipush 99, 2) := by decide +kernel
theorem dX5_worth_24 : decode cX5_worth 24 = .ok (.if_icmp .le 6, 3) := by decide +kernel
theorem dX5_worth_27 : decode cX5_worth 27 = .ok (.bipush (-2), 2) := by decide +kernel
theorem dX5_worth_29 : decode cX5_worth 29 = .ok (.ireturn, 1) := by decide +kernel
theorem dX5_worth_30 : decode cX5_worth 30 = .ok (.aload_n 0, 1) := by decide +kernel
theorem dX5_worth_31 : decode cX5_worth 31 = .ok (.getfield 12, 3) := by decide +kernel
theorem dX5_worth_34 : decode cX5_worth 34 = .ok (.iload_n 1, 1) := by decide +kernel
theorem dX5_worth_35 : decode cX5_worth 35 = .ok (.iload_n 2, 1) := by decide +kernel
theorem dX5_worth_36 : decode cX5_worth 36 = .ok (.invokevirtual 71, 3) := by decide +kernel
theorem dX5_worth_39 : decode cX5_worth 39 = .ok (.istore 4, 2) := by decide +kernel
theorem dX5_worth_41 : decode cX5_worth 41 = .ok (.aload_n 0, 1) := by decide +kernel
theorem dX5_worth_42 : decode cX5_worth 42 = .ok (.getfield 12, 3) := by decide +kernel
theorem dX5_worth_45 : decode cX5_worth 45 = .ok (.iload_n 1, 1) := by decide +kernel
theorem dX5_worth_46 : decode cX5_worth 46 = .ok (.iload_n 2, 1) := by decide +kernel
theorem dX5_worth_47 : decode cX5_worth 47 = .ok (.iload_n 3, 1) := by decide +kernel
theorem dX5_worth_48 : decode cX5_worth 48 = .ok (.invokevirtual 75, 3) := by decide +kernel
theorem dX5_worth_51 : decode cX5_worth 51 = .ok (.iload 4, 2) := by decide +kernel
theorem dX5_worth_53 : decode cX5_worth 53 = .ok (.ireturn, 1) := by decide +kernel
theorem dX5_rule_0 : decode cX5_rule 0 = .ok (.iload_n 1, 1) := by decide +kernel
theorem dX5_rule_1 : decode cX5_rule 1 = .ok (.ifCond .lt 8, 3) := by decide +kernel
theorem dX5_rule_4 : decode cX5_rule 4 = .ok (.iload_n 1, 1) := by decide +kernel
theorem dX5_rule_5 : decode cX5_rule 5 = .ok (.iconst 4, 1) := by decide +kernel
theorem dX5_rule_6 : decode cX5_rule 6 = .ok (.if_icmp .lt 6, 3) := by decide +kernel
theorem dX5_rule_9 : decode cX5_rule 9 = .ok (.bipush (-2), 2) := by decide +kernel
theorem dX5_rule_11 : decode cX5_rule 11 = .ok (.ireturn, 1) := by decide +kernel
theorem dX5_rule_12 : decode cX5_rule 12 = .ok (.aload_n 0, 1) := by decide +kernel
theorem dX5_rule_13 : decode cX5_rule 13 = .ok (.getfield 12, 3) := by decide +kernel
theorem dX5_rule_16 : decode cX5_rule 16 = .ok (.getfield 79, 3) := by decide +kernel
theorem dX5_rule_19 : decode cX5_rule 19 = .ok (.istore_n 2, 1) := by decide +kernel
theorem dX5_rule_20 : decode cX5_rule 20 = .ok (.aload_n 0, 1) := by decide +kernel
theorem dX5_rule_21 : decode cX5_rule 21 = .ok (.getfield 12, 3) := by decide +kernel
theorem dX5_rule_24 : decode cX5_rule 24 = .ok (.iload_n 1, 1) := by decide +kernel
theorem dX5_rule_25 : decode cX5_rule 25 = .ok (.putfield 79, 3) := by decide +kernel
theorem dX5_rule_28 : decode cX5_rule 28 = .ok (.iload_n 2, 1) := by decide +kernel
theorem dX5_rule_29 : decode cX5_rule 29 = .ok (.ireturn, 1) := by decide +kernel
theorem dX5_say_0 : decode cX5_say 0 = .ok (.iload_n 1, 1) := by decide +kernel
theorem dX5_say_1 : decode cX5_say 1 = .ok (.bipush 33, 2) := by decide +kernel
theorem dX5_say_3 : decode cX5_say 3 = .ok (.if_icmp .lt 9, 3) := by decide +kernel
theorem dX5_say_6 : decode cX5_say 6 = .ok (.iload_n 1, 1) := by decide +kernel
theorem dX5_say_7 : decode cX5_say 7 = .ok (.bipush 126, 2) := by decide +kernel
theorem dX5_say_9 : decode cX5_say 9 = .ok (.if_icmp .le 6, 3) := by decide +kernel
theorem dX5_say_12 : decode cX5_say 12 = .ok (.bipush (-2), 2) := by decide +kernel
theorem dX5_say_14 : decode cX5_say 14 = .ok (.ireturn, 1) := by decide +kernel
theorem dX5_say_15 : decode cX5_say 15 = .ok (.aload_n 0, 1) := by decide +kernel
theorem dX5_say_16 : decode cX5_say 16 = .ok (.getfield 25, 3) := by decide +kernel
theorem dX5_say_19 : decode cX5_say 19 = .ok (.invokevirtual 82, 3) := by decide +kernel
theorem dX5_say_22 : decode cX5_say 22 = .ok (.ifCond .eq 6, 3) := by decide +kernel
theorem dX5_say_25 : decode cX5_say 25 = .ok (.bipush (-4), 2) := by decide +kernel
theorem dX5_say_27 : decode cX5_say 27 = .ok (.ireturn, 1) := by decide +kernel
theorem dX5_say_28 : decode cX5_say 28 = .ok (.aload_n 0, 1) := by decide +kernel
theorem dX5_say_29 : decode cX5_say 29 = .ok (.getfield 25, 3) := by decide +kernel
theorem dX5_say_32 : decode cX5_say 32 = .ok (.iload_n 1, 1) := by decide +kernel
theorem dX5_say_33 : decode cX5_say 33 = .ok (.invokevirtual 86, 3) := by decide +kernel
theorem dX5_say_36 : decode cX5_say 36 = .ok (.aload_n 0, 1) := by decide +kernel
theorem dX5_say_37 : decode cX5_say 37 = .ok (.getfield 25, 3) := by decide +kernel
theorem dX5_say_40 : decode cX5_say 40 = .ok (.getfield 89, 3) := by decide +kernel
theorem dX5_say_43 : decode cX5_say 43 = .ok (.ireturn, 1) := by decide +kernel
theorem dX5_wipe_0 : decode cX5_wipe 0 = .ok (.aload_n 0, 1) := by decide +kernel
theorem dX5_wipe_1 : decode cX5_wipe 1 = .ok (.getfield 25, 3) := by decide +kernel
theorem dX5_wipe_4 : decode cX5_wipe 4 = .ok (.getfield 89, 3) := by decide +kernel
theorem dX5_wipe_7 : decode cX5_wipe 7 = .ok (.istore_n 1, 1) := by decide +kernel
theorem dX5_wipe_8 : decode cX5_wipe 8 = .ok (.aload_n 0, 1) := by decide +kernel
theorem dX5_wipe_9 : decode cX5_wipe 9 = .ok (.getfield 25, 3) := by decide +kernel
theorem dX5_wipe_12 : decode cX5_wipe 12 = .ok (.iconst 0, 1) := by decide +kernel
theorem dX5_wipe_13 : decode cX5_wipe 13 = .ok (.putfield 89, 3) := by decide +kernel
theorem dX5_wipe_16 : decode cX5_wipe 16 = .ok (.iload_n 1, 1) := by decide +kernel
theorem dX5_wipe_17 : decode cX5_wipe 17 = .ok (.ireturn, 1) := by decide +kernel
theorem dX5_fault_0 : decode cX5_fault 0 = .ok (.aload_n 0, 1) := by decide +kernel
theorem dX5_fault_1 : decode cX5_fault 1 = .ok (.getfield 25, 3) := by decide +kernel
theorem dX5_fault_4 : decode cX5_fault 4 = .ok (.invokevirtual 92, 3) := by decide +kernel
theorem dX5_fault_7 : decode cX5_fault 7 = .ok (.ireturn, 1) := by decide +kernel
theorem dX5_judge_0 : decode cX5_judge 0 = .ok (.iload_n 1, 1) := by decide +kernel
theorem dX5_judge_1 : decode cX5_judge 1 = .ok (.invokestatic 96, 3) := by decide +kernel
theorem dX5_judge_4 : decode cX5_judge 4 = .ok (.ifCond .ne 6, 3) := by decide +kernel
theorem dX5_judge_7 : decode cX5_judge 7 = .ok (.bipush (-2), 2) := by decide +kernel
theorem dX5_judge_9 : decode cX5_judge 9 = .ok (.ireturn, 1) := by decide +kernel
theorem dX5_judge_10 : decode cX5_judge 10 = .ok (.aload_n 0, 1) := by decide +kernel
theorem dX5_judge_11 : decode cX5_judge 11 = .ok (.getfield 25, 3) := by decide +kernel
theorem dX5_judge_14 : decode cX5_judge 14 = .ok (.invokevirtual 92, 3) := by decide +kernel
theorem dX5_judge_17 : decode cX5_judge 17 = .ok (.bipush (-6), 2) := by decide +kernel
theorem dX5_judge_19 : decode cX5_judge 19 = .ok (.if_icmp .eq 6, 3) := by decide +kernel
theorem dX5_judge_22 : decode cX5_judge 22 = .ok (.bipush (-5), 2) := by decide +kernel
theorem dX5_judge_24 : decode cX5_judge 24 = .ok (.ireturn, 1) := by decide +kernel
theorem dX5_judge_25 : decode cX5_judge 25 = .ok (.aload_n 0, 1) := by decide +kernel
theorem dX5_judge_26 : decode cX5_judge 26 = .ok (.getfield 25, 3) := by decide +kernel
theorem dX5_judge_29 : decode cX5_judge 29 = .ok (.aload_n 0, 1) := by decide +kernel
theorem dX5_judge_30 : decode cX5_judge 30 = .ok (.getfield 25, 3) := by decide +kernel
theorem dX5_judge_33 : decode cX5_judge 33 = .ok (.getfield 89, 3) := by decide +kernel
theorem dX5_judge_36 : decode cX5_judge 36 = .ok (.invokevirtual 99, 3) := by decide +kernel
theorem dX5_judge_39 : decode cX5_judge 39 = .ok (.ifCond .eq 6, 3) := by decide +kernel
theorem dX5_judge_42 : decode cX5_judge 42 = .ok (.bipush (-3), 2) := by decide +kernel
theorem dX5_judge_44 : decode cX5_judge 44 = .ok (.ireturn, 1) := by decide +kernel
theorem dX5_judge_45 : decode cX5_judge 45 = .ok (.aload_n 0, 1) := by decide +kernel
theorem dX5_judge_46 : decode cX5_judge 46 = .ok (.getfield 52, 3) := by decide +kernel
theorem dX5_judge_49 : decode cX5_judge 49 = .ok (.aload_n 0, 1) := by decide +kernel
theorem dX5_judge_50 : decode cX5_judge 50 = .ok (.getfield 12, 3) := by decide +kernel
theorem dX5_judge_53 : decode cX5_judge 53 = .ok (.getfield 79, 3) := by decide +kernel
theorem dX5_judge_56 : decode cX5_judge 56 = .ok (.invokevirtual 102, 3) := by decide +kernel
theorem dX5_judge_59 : decode cX5_judge 59 = .ok (.aload_n 0, 1) := by decide +kernel
theorem dX5_judge_60 : decode cX5_judge 60 = .ok (.getfield 52, 3) := by decide +kernel
theorem dX5_judge_63 : decode cX5_judge 63 = .ok (.aload_n 0, 1) := by decide +kernel
theorem dX5_judge_64 : decode cX5_judge 64 = .ok (.getfield 25, 3) := by decide +kernel
theorem dX5_judge_67 : decode cX5_judge 67 = .ok (.iconst 0, 1) := by decide +kernel
theorem dX5_judge_68 : decode cX5_judge 68 = .ok (.aload_n 0, 1) := by decide +kernel
theorem dX5_judge_69 : decode cX5_judge 69 = .ok (.getfield 25, 3) := by decide +kernel
theorem dX5_judge_72 : decode cX5_judge 72 = .ok (.getfield 89, 3) := by decide +kernel
theorem dX5_judge_75 : decode cX5_judge 75 = .ok (.invokevirtual 105, 3) := by decide +kernel
theorem dX5_judge_78 : decode cX5_judge 78 = .ok (.istore_n 2, 1) := by decide +kernel
theorem dX5_judge_79 : decode cX5_judge 79 = .ok (.iload_n 2, 1) := by decide +kernel
theorem dX5_judge_80 : decode cX5_judge 80 = .ok (.bipush (-6), 2) := by decide +kernel
theorem dX5_judge_82 : decode cX5_judge 82 = .ok (.if_icmp .ne 6, 3) := by decide +kernel
theorem dX5_judge_85 : decode cX5_judge 85 = .ok (.bipush (-6), 2) := by decide +kernel
theorem dX5_judge_87 : decode cX5_judge 87 = .ok (.ireturn, 1) := by decide +kernel
theorem dX5_judge_88 : decode cX5_judge 88 = .ok (.iload_n 1, 1) := by decide +kernel
theorem dX5_judge_89 : decode cX5_judge 89 = .ok (.ifCond .ne 7, 3) := by decide +kernel
theorem dX5_judge_92 : decode cX5_judge 92 = .ok (.iload_n 2, 1) := by decide +kernel
theorem dX5_judge_93 : decode cX5_judge 93 = .ok (.goto 18, 3) := by decide +kernel
theorem dX5_judge_96 : decode cX5_judge 96 = .ok (.aload_n 0, 1) := by decide +kernel
theorem dX5_judge_97 : decode cX5_judge 97 = .ok (.getfield 52, 3) := by decide +kernel
theorem dX5_judge_100 : decode cX5_judge 100 = .ok (.aload_n 0, 1) := by decide +kernel
theorem dX5_judge_101 : decode cX5_judge 101 = .ok (.getfield 25, 3) := by decide +kernel
theorem dX5_judge_104 : decode cX5_judge 104 = .ok (.iload_n 2, 1) := by decide +kernel
theorem dX5_judge_105 : decode cX5_judge 105 = .ok (.invokevirtual 109, 3) := by decide +kernel
theorem dX5_judge_108 : decode cX5_judge 108 = .ok (.invokevirtual 113, 3) := by decide +kernel
theorem dX5_judge_111 : decode cX5_judge 111 = .ok (.ireturn, 1) := by decide +kernel
theorem dX5_bed_0 : decode cX5_bed 0 = .ok (.iload_n 1, 1) := by decide +kernel
theorem dX5_bed_1 : decode cX5_bed 1 = .ok (.invokestatic 64, 3) := by decide +kernel
theorem dX5_bed_4 : decode cX5_bed 4 = .ok (.ifCond .ne 5, 3) := by decide +kernel
theorem dX5_bed_7 : decode cX5_bed 7 = .ok (.iconst (-1), 1) := by decide +kernel
theorem dX5_bed_8 : decode cX5_bed 8 = .ok (.ireturn, 1) := by decide +kernel
theorem dX5_bed_9 : decode cX5_bed 9 = .ok (.aload_n 0, 1) := by decide +kernel
theorem dX5_bed_10 : decode cX5_bed 10 = .ok (.iload_n 2, 1) := by decide +kernel
theorem dX5_bed_11 : decode cX5_bed 11 = .ok (.invokevirtual 116, 3) := by decide +kernel
theorem dX5_bed_14 : decode cX5_bed 14 = .ok (.ifCond .ne 6, 3) := by decide +kernel
theorem dX5_bed_17 : decode cX5_bed 17 = .ok (.bipush (-2), 2) := by decide +kernel
theorem dX5_bed_19 : decode cX5_bed 19 = .ok (.ireturn, 1) := by decide +kernel
theorem dX5_bed_20 : decode cX5_bed 20 = .ok (.aload_n 0, 1) := by decide +kernel
theorem dX5_bed_21 : decode cX5_bed 21 = .ok (.iload_n 2, 1) := by decide +kernel
theorem dX5_bed_22 : decode cX5_bed 22 = .ok (.invokevirtual 119, 3) := by decide +kernel
theorem dX5_bed_25 : decode cX5_bed 25 = .ok (.istore_n 3, 1) := by decide +kernel
theorem dX5_bed_26 : decode cX5_bed 26 = .ok (.iload_n 3, 1) := by decide +kernel
theorem dX5_bed_27 : decode cX5_bed 27 = .ok (.ifCond .eq 5, 3) := by decide +kernel
theorem dX5_bed_30 : decode cX5_bed 30 = .ok (.iload_n 3, 1) := by decide +kernel
theorem dX5_bed_31 : decode cX5_bed 31 = .ok (.ireturn, 1) := by decide +kernel
theorem dX5_bed_32 : decode cX5_bed 32 = .ok (.aload_n 0, 1) := by decide +kernel
theorem dX5_bed_33 : decode cX5_bed 33 = .ok (.getfield 52, 3) := by decide +kernel
theorem dX5_bed_36 : decode cX5_bed 36 = .ok (.iload_n 1, 1) := by decide +kernel
theorem dX5_bed_37 : decode cX5_bed 37 = .ok (.invokevirtual 122, 3) := by decide +kernel
theorem dX5_bed_40 : decode cX5_bed 40 = .ok (.istore 4, 2) := by decide +kernel
theorem dX5_bed_42 : decode cX5_bed 42 = .ok (.iload 4, 2) := by decide +kernel
theorem dX5_bed_44 : decode cX5_bed 44 = .ok (.iconst (-1), 1) := by decide +kernel
theorem dX5_bed_45 : decode cX5_bed 45 = .ok (.if_icmp .ne 8, 3) := by decide +kernel
theorem dX5_bed_48 : decode cX5_bed 48 = .ok (.bipush (-6), 2) := by decide +kernel
theorem dX5_bed_50 : decode cX5_bed 50 = .ok (.goto 5, 3) := by decide +kernel
theorem dX5_bed_53 : decode cX5_bed 53 = .ok (.iload 4, 2) := by decide +kernel
theorem dX5_bed_55 : decode cX5_bed 55 = .ok (.ireturn, 1) := by decide +kernel
theorem dX5_who_0 : decode cX5_who 0 = .ok (.aload_n 0, 1) := by decide +kernel
theorem dX5_who_1 : decode cX5_who 1 = .ok (.iload_n 1, 1) := by decide +kernel
theorem dX5_who_2 : decode cX5_who 2 = .ok (.invokevirtual 68, 3) := by decide +kernel
theorem dX5_who_5 : decode cX5_who 5 = .ok (.ifCond .ne 5, 3) := by decide +kernel
theorem dX5_who_8 : decode cX5_who 8 = .ok (.iconst (-1), 1) := by decide +kernel
theorem dX5_who_9 : decode cX5_who 9 = .ok (.ireturn, 1) := by decide +kernel
theorem dX5_who_10 : decode cX5_who 10 = .ok (.aload_n 0, 1) := by decide +kernel
theorem dX5_who_11 : decode cX5_who 11 = .ok (.iload_n 2, 1) := by decide +kernel
theorem dX5_who_12 : decode cX5_who 12 = .ok (.invokevirtual 116, 3) := by decide +kernel
theorem dX5_who_15 : decode cX5_who 15 = .ok (.ifCond .ne 6, 3) := by decide +kernel
theorem dX5_who_18 : decode cX5_who 18 = .ok (.bipush (-2), 2) := by decide +kernel
theorem dX5_who_20 : decode cX5_who 20 = .ok (.ireturn, 1) := by decide +kernel
theorem dX5_who_21 : decode cX5_who 21 = .ok (.aload_n 0, 1) := by decide +kernel
theorem dX5_who_22 : decode cX5_who 22 = .ok (.iload_n 2, 1) := by decide +kernel
theorem dX5_who_23 : decode cX5_who 23 = .ok (.invokevirtual 119, 3) := by decide +kernel
theorem dX5_who_26 : decode cX5_who 26 = .ok (.istore_n 3, 1) := by decide +kernel
theorem dX5_who_27 : decode cX5_who 27 = .ok (.iload_n 3, 1) := by decide +kernel
theorem dX5_who_28 : decode cX5_who 28 = .ok (.ifCond .eq 5, 3) := by decide +kernel
theorem dX5_who_31 : decode cX5_who 31 = .ok (.iload_n 3, 1) := by decide +kernel
theorem dX5_who_32 : decode cX5_who 32 = .ok (.ireturn, 1) := by decide +kernel
theorem dX5_who_33 : decode cX5_who 33 = .ok (.aload_n 0, 1) := by decide +kernel
theorem dX5_who_34 : decode cX5_who 34 = .ok (.getfield 52, 3) := by decide +kernel
theorem dX5_who_37 : decode cX5_who 37 = .ok (.iload_n 1, 1) := by decide +kernel
theorem dX5_who_38 : decode cX5_who 38 = .ok (.invokevirtual 125, 3) := by decide +kernel
theorem dX5_who_41 : decode cX5_who 41 = .ok (.istore 4, 2) := by decide +kernel
theorem dX5_who_43 : decode cX5_who 43 = .ok (.iload 4, 2) := by decide +kernel
theorem dX5_who_45 : decode cX5_who 45 = .ok (.iconst (-1), 1) := by decide +kernel
theorem dX5_who_46 : decode cX5_who 46 = .ok (.if_icmp .ne 8, 3) := by decide +kernel
theorem dX5_who_49 : decode cX5_who 49 = .ok (.bipush (-6), 2) := by decide +kernel
theorem dX5_who_51 : decode cX5_who 51 = .ok (.goto 5, 3) := by decide +kernel
theorem dX5_who_54 : decode cX5_who 54 = .ok (.iload 4, 2) := by decide +kernel
theorem dX5_who_56 : decode cX5_who 56 = .ok (.ireturn, 1) := by decide +kernel
theorem dX5_left_0 : decode cX5_left 0 = .ok (.aload_n 0, 1) := by decide +kernel
theorem dX5_left_1 : decode cX5_left 1 = .ok (.iload_n 1, 1) := by decide +kernel
theorem dX5_left_2 : decode cX5_left 2 = .ok (.invokevirtual 116, 3) := by decide +kernel
theorem dX5_left_5 : decode cX5_left 5 = .ok (.ifCond .ne 6, 3) := by decide +kernel
theorem dX5_left_8 : decode cX5_left 8 = .ok (.bipush (-2), 2) := by decide +kernel
theorem dX5_left_10 : decode cX5_left 10 = .ok (.ireturn, 1) := by decide +kernel
theorem dX5_left_11 : decode cX5_left 11 = .ok (.aload_n 0, 1) := by decide +kernel
theorem dX5_left_12 : decode cX5_left 12 = .ok (.iload_n 1, 1) := by decide +kernel
theorem dX5_left_13 : decode cX5_left 13 = .ok (.invokevirtual 119, 3) := by decide +kernel
theorem dX5_left_16 : decode cX5_left 16 = .ok (.istore_n 3, 1) := by decide +kernel
theorem dX5_left_17 : decode cX5_left 17 = .ok (.iload_n 3, 1) := by decide +kernel
theorem dX5_left_18 : decode cX5_left 18 = .ok (.ifCond .eq 5, 3) := by decide +kernel
theorem dX5_left_21 : decode cX5_left 21 = .ok (.iload_n 3, 1) := by decide +kernel
theorem dX5_left_22 : decode cX5_left 22 = .ok (.ireturn, 1) := by decide +kernel
theorem dX5_left_23 : decode cX5_left 23 = .ok (.iload_n 2, 1) := by decide +kernel
theorem dX5_left_24 : decode cX5_left 24 = .ok (.iconst (-1), 1) := by decide +kernel
theorem dX5_left_25 : decode cX5_left 25 = .ok (.if_icmp .ne 13, 3) := by decide +kernel
theorem dX5_left_28 : decode cX5_left 28 = .ok (.aload_n 0, 1) := by decide +kernel
theorem dX5_left_29 : decode cX5_left 29 = .ok (.getfield 52, 3) := by decide +kernel
theorem dX5_left_32 : decode cX5_left 32 = .ok (.getfield 128, 3) := by decide +kernel
theorem dX5_left_35 : decode cX5_left 35 = .ok (.goto 11, 3) := by decide +kernel
theorem dX5_left_38 : decode cX5_left 38 = .ok (.aload_n 0, 1) := by decide +kernel
theorem dX5_left_39 : decode cX5_left 39 = .ok (.getfield 52, 3) := by decide +kernel
theorem dX5_left_42 : decode cX5_left 42 = .ok (.iload_n 2, 1) := by decide +kernel
theorem dX5_left_43 : decode cX5_left 43 = .ok (.invokevirtual 131, 3) := by decide +kernel
theorem dX5_left_46 : decode cX5_left 46 = .ok (.ireturn, 1) := by decide +kernel
theorem dX5_slept_0 : decode cX5_slept 0 = .ok (.aload_n 0, 1) := by decide +kernel
theorem dX5_slept_1 : decode cX5_slept 1 = .ok (.iload_n 1, 1) := by decide +kernel
theorem dX5_slept_2 : decode cX5_slept 2 = .ok (.invokevirtual 68, 3) := by decide +kernel
theorem dX5_slept_5 : decode cX5_slept 5 = .ok (.ifCond .ne 5, 3) := by decide +kernel
theorem dX5_slept_8 : decode cX5_slept 8 = .ok (.iconst (-1), 1) := by decide +kernel
theorem dX5_slept_9 : decode cX5_slept 9 = .ok (.ireturn, 1) := by decide +kernel
theorem dX5_slept_10 : decode cX5_slept 10 = .ok (.iload_n 2, 1) := by decide +kernel
theorem dX5_slept_11 : decode cX5_slept 11 = .ok (.ifCond .lt 8, 3) := by decide +kernel
theorem dX5_slept_14 : decode cX5_slept 14 = .ok (.iload_n 2, 1) := by decide +kernel
theorem dX5_slept_15 : decode cX5_slept 15 = .ok (.iconst 2, 1) := by decide +kernel
theorem dX5_slept_16 : decode cX5_slept 16 = .ok (.if_icmp .le 6, 3) := by decide +kernel
theorem dX5_slept_19 : decode cX5_slept 19 = .ok (.bipush (-2), 2) := by decide +kernel
theorem dX5_slept_21 : decode cX5_slept 21 = .ok (.ireturn, 1) := by decide +kernel
theorem dX5_slept_22 : decode cX5_slept 22 = .ok (.aload_n 0, 1) := by decide +kernel
theorem dX5_slept_23 : decode cX5_slept 23 = .ok (.iconst (-1), 1) := by decide +kernel
theorem dX5_slept_24 : decode cX5_slept 24 = .ok (.invokevirtual 119, 3) := by decide +kernel
theorem dX5_slept_27 : decode cX5_slept 27 = .ok (.istore_n 3, 1) := by decide +kernel
theorem dX5_slept_28 : decode cX5_slept 28 = .ok (.iload_n 3, 1) := by decide +kernel
theorem dX5_slept_29 : decode cX5_slept 29 = .ok (.ifCond .eq 7, 3) := by decide +kernel
theorem dX5_slept_32 : decode cX5_slept 32 = .ok (.iload_n 3, 1) := by decide +kernel
theorem dX5_slept_33 : decode cX5_slept 33 = .ok (.goto 12, 3) := by decide +kernel
theorem dX5_slept_36 : decode cX5_slept 36 = .ok (.aload_n 0, 1) := by decide +kernel
theorem dX5_slept_37 : decode cX5_slept 37 = .ok (.getfield 52, 3) := by decide +kernel
theorem dX5_slept_40 : decode cX5_slept 40 = .ok (.iload_n 1, 1) := by decide +kernel
theorem dX5_slept_41 : decode cX5_slept 41 = .ok (.iload_n 2, 1) := by decide +kernel
theorem dX5_slept_42 : decode cX5_slept 42 = .ok (.invokevirtual 134, 3) := by decide +kernel
theorem dX5_slept_45 : decode cX5_slept 45 = .ok (.ireturn, 1) := by decide +kernel
theorem dX5_fewest_0 : decode cX5_fewest 0 = .ok (.iload_n 1, 1) := by decide +kernel
theorem dX5_fewest_1 : decode cX5_fewest 1 = .ok (.invokestatic 96, 3) := by decide +kernel
theorem dX5_fewest_4 : decode cX5_fewest 4 = .ok (.ifCond .ne 6, 3) := by decide +kernel
theorem dX5_fewest_7 : decode cX5_fewest 7 = .ok (.bipush (-2), 2) := by decide +kernel
theorem dX5_fewest_9 : decode cX5_fewest 9 = .ok (.ireturn, 1) := by decide +kernel
theorem dX5_fewest_10 : decode cX5_fewest 10 = .ok (.aload_n 0, 1) := by decide +kernel
theorem dX5_fewest_11 : decode cX5_fewest 11 = .ok (.iconst (-1), 1) := by decide +kernel
theorem dX5_fewest_12 : decode cX5_fewest 12 = .ok (.invokevirtual 119, 3) := by decide +kernel
theorem dX5_fewest_15 : decode cX5_fewest 15 = .ok (.istore_n 2, 1) := by decide +kernel
theorem dX5_fewest_16 : decode cX5_fewest 16 = .ok (.iload_n 2, 1) := by decide +kernel
theorem dX5_fewest_17 : decode cX5_fewest 17 = .ok (.ifCond .eq 5, 3) := by decide +kernel
theorem dX5_fewest_20 : decode cX5_fewest 20 = .ok (.iload_n 2, 1) := by decide +kernel
theorem dX5_fewest_21 : decode cX5_fewest 21 = .ok (.ireturn, 1) := by decide +kernel
theorem dX5_fewest_22 : decode cX5_fewest 22 = .ok (.iconst 0, 1) := by decide +kernel
theorem dX5_fewest_23 : decode cX5_fewest 23 = .ok (.istore_n 3, 1) := by decide +kernel
theorem dX5_fewest_24 : decode cX5_fewest 24 = .ok (.aload_n 0, 1) := by decide +kernel
theorem dX5_fewest_25 : decode cX5_fewest 25 = .ok (.iconst 0, 1) := by decide +kernel
theorem dX5_fewest_26 : decode cX5_fewest 26 = .ok (.invokevirtual 137, 3) := by decide +kernel
theorem dX5_fewest_29 : decode cX5_fewest 29 = .ok (.istore 4, 2) := by decide +kernel
theorem dX5_fewest_31 : decode cX5_fewest 31 = .ok (.iconst 1, 1) := by decide +kernel
theorem dX5_fewest_32 : decode cX5_fewest 32 = .ok (.istore 5, 2) := by decide +kernel
theorem dX5_fewest_34 : decode cX5_fewest 34 = .ok (.iload 5, 2) := by decide +kernel
theorem dX5_fewest_36 : decode cX5_fewest 36 = .ok (.iconst 4, 1) := by decide +kernel
theorem dX5_fewest_37 : decode cX5_fewest 37 = .ok (.if_icmp .ge 31, 3) := by decide +kernel
theorem dX5_fewest_40 : decode cX5_fewest 40 = .ok (.aload_n 0, 1) := by decide +kernel
theorem dX5_fewest_41 : decode cX5_fewest 41 = .ok (.iload 5, 2) := by decide +kernel
theorem dX5_fewest_43 : decode cX5_fewest 43 = .ok (.invokevirtual 137, 3) := by decide +kernel
theorem dX5_fewest_46 : decode cX5_fewest 46 = .ok (.istore 6, 2) := by decide +kernel
theorem dX5_fewest_48 : decode cX5_fewest 48 = .ok (.iload 6, 2) := by decide +kernel
theorem dX5_fewest_50 : decode cX5_fewest 50 = .ok (.iload 4, 2) := by decide +kernel
theorem dX5_fewest_52 : decode cX5_fewest 52 = .ok (.if_icmp .ge 10, 3) := by decide +kernel
theorem dX5_fewest_55 : decode cX5_fewest 55 = .ok (.iload 5, 2) := by decide +kernel
theorem dX5_fewest_57 : decode cX5_fewest 57 = .ok (.istore_n 3, 1) := by decide +kernel
theorem dX5_fewest_58 : decode cX5_fewest 58 = .ok (.iload 6, 2) := by decide +kernel
theorem dX5_fewest_60 : decode cX5_fewest 60 = .ok (.istore 4, 2) := by decide +kernel
theorem dX5_fewest_62 : decode cX5_fewest 62 = .ok (.iinc 5 1, 3) := by decide +kernel
theorem dX5_fewest_65 : decode cX5_fewest 65 = .ok (.goto (-31), 3) := by decide +kernel
theorem dX5_fewest_68 : decode cX5_fewest 68 = .ok (.iload_n 1, 1) := by decide +kernel
theorem dX5_fewest_69 : decode cX5_fewest 69 = .ok (.ifCond .ne 7, 3) := by decide +kernel
theorem dX5_fewest_72 : decode cX5_fewest 72 = .ok (.iload_n 3, 1) := by decide +kernel
theorem dX5_fewest_73 : decode cX5_fewest 73 = .ok (.goto 5, 3) := by decide +kernel
theorem dX5_fewest_76 : decode cX5_fewest 76 = .ok (.iload 4, 2) := by decide +kernel
theorem dX5_fewest_78 : decode cX5_fewest 78 = .ok (.ireturn, 1) := by decide +kernel
theorem dX5_when_0 : decode cX5_when 0 = .ok (.iload_n 1, 1) := by decide +kernel
theorem dX5_when_1 : decode cX5_when 1 = .ok (.invokestatic 64, 3) := by decide +kernel
theorem dX5_when_4 : decode cX5_when 4 = .ok (.ifCond .eq 22, 3) := by decide +kernel
theorem dX5_when_7 : decode cX5_when 7 = .ok (.aload_n 0, 1) := by decide +kernel
theorem dX5_when_8 : decode cX5_when 8 = .ok (.iload_n 2, 1) := by decide +kernel
theorem dX5_when_9 : decode cX5_when 9 = .ok (.invokevirtual 68, 3) := by decide +kernel
theorem dX5_when_12 : decode cX5_when 12 = .ok (.ifCond .eq 14, 3) := by decide +kernel
theorem dX5_when_15 : decode cX5_when 15 = .ok (.aload_n 0, 1) := by decide +kernel
theorem dX5_when_16 : decode cX5_when 16 = .ok (.getfield 25, 3) := by decide +kernel
theorem dX5_when_19 : decode cX5_when 19 = .ok (.iload_n 1, 1) := by decide +kernel
theorem dX5_when_20 : decode cX5_when 20 = .ok (.invokevirtual 140, 3) := by decide +kernel
theorem dX5_when_23 : decode cX5_when 23 = .ok (.ifCond .eq 5, 3) := by decide +kernel
theorem dX5_when_26 : decode cX5_when 26 = .ok (.iconst (-1), 1) := by decide +kernel
theorem dX5_when_27 : decode cX5_when 27 = .ok (.ireturn, 1) := by decide +kernel
theorem dX5_when_28 : decode cX5_when 28 = .ok (.aload_n 0, 1) := by decide +kernel
theorem dX5_when_29 : decode cX5_when 29 = .ok (.iload_n 3, 1) := by decide +kernel
theorem dX5_when_30 : decode cX5_when 30 = .ok (.invokevirtual 143, 3) := by decide +kernel
theorem dX5_when_33 : decode cX5_when 33 = .ok (.istore 4, 2) := by decide +kernel
theorem dX5_when_35 : decode cX5_when 35 = .ok (.iload 4, 2) := by decide +kernel
theorem dX5_when_37 : decode cX5_when 37 = .ok (.ifCond .eq 6, 3) := by decide +kernel
theorem dX5_when_40 : decode cX5_when 40 = .ok (.iload 4, 2) := by decide +kernel
theorem dX5_when_42 : decode cX5_when 42 = .ok (.ireturn, 1) := by decide +kernel
theorem dX5_when_43 : decode cX5_when 43 = .ok (.aload_n 0, 1) := by decide +kernel
theorem dX5_when_44 : decode cX5_when 44 = .ok (.iload_n 1, 1) := by decide +kernel
theorem dX5_when_45 : decode cX5_when 45 = .ok (.invokevirtual 146, 3) := by decide +kernel
theorem dX5_when_48 : decode cX5_when 48 = .ok (.iconst 0, 1) := by decide +kernel
theorem dX5_when_49 : decode cX5_when 49 = .ok (.istore 5, 2) := by decide +kernel
theorem dX5_when_51 : decode cX5_when 51 = .ok (.bipush (-6), 2) := by decide +kernel
theorem dX5_when_53 : decode cX5_when 53 = .ok (.istore 6, 2) := by decide +kernel
theorem dX5_when_55 : decode cX5_when 55 = .ok (.iconst 0, 1) := by decide +kernel
theorem dX5_when_56 : decode cX5_when 56 = .ok (.istore 7, 2) := by decide +kernel
theorem dX5_when_58 : decode cX5_when 58 = .ok (.iload 7, 2) := by decide +kernel
theorem dX5_when_60 : decode cX5_when 60 = .ok (.aload_n 0, 1) := by decide +kernel
theorem dX5_when_61 : decode cX5_when 61 = .ok (.getfield 25, 3) := by decide +kernel
theorem dX5_when_64 : decode cX5_when 64 = .ok (.getfield 89, 3) := by decide +kernel
theorem dX5_when_67 : decode cX5_when 67 = .ok (.if_icmp .gt 36, 3) := by decide +kernel
theorem dX5_when_70 : decode cX5_when 70 = .ok (.aload_n 0, 1) := by decide +kernel
theorem dX5_when_71 : decode cX5_when 71 = .ok (.iload 7, 2) := by decide +kernel
theorem dX5_when_73 : decode cX5_when 73 = .ok (.invokevirtual 149, 3) := by decide +kernel
theorem dX5_when_76 : decode cX5_when 76 = .ok (.iload_n 2, 1) := by decide +kernel
theorem dX5_when_77 : decode cX5_when 77 = .ok (.if_icmp .ne 20, 3) := by decide +kernel
theorem dX5_when_80 : decode cX5_when 80 = .ok (.iload 5, 2) := by decide +kernel
theorem dX5_when_82 : decode cX5_when 82 = .ok (.ifCond .ne 8, 3) := by decide +kernel
theorem dX5_when_85 : decode cX5_when 85 = .ok (.iload 7, 2) := by decide +kernel
theorem dX5_when_87 : decode cX5_when 87 = .ok (.goto 5, 3) := by decide +kernel
theorem dX5_when_90 : decode cX5_when 90 = .ok (.iload 6, 2) := by decide +kernel
theorem dX5_when_92 : decode cX5_when 92 = .ok (.istore 6, 2) := by decide +kernel
theorem dX5_when_94 : decode cX5_when 94 = .ok (.iinc 5 1, 3) := by decide +kernel
theorem dX5_when_97 : decode cX5_when 97 = .ok (.iinc 7 1, 3) := by decide +kernel
theorem dX5_when_100 : decode cX5_when 100 = .ok (.goto (-42), 3) := by decide +kernel
theorem dX5_when_103 : decode cX5_when 103 = .ok (.iload_n 3, 1) := by decide +kernel
theorem dX5_when_104 : decode cX5_when 104 = .ok (.ifCond .ne 8, 3) := by decide +kernel
theorem dX5_when_107 : decode cX5_when 107 = .ok (.iload 5, 2) := by decide +kernel
theorem dX5_when_109 : decode cX5_when 109 = .ok (.goto 5, 3) := by decide +kernel
theorem dX5_when_112 : decode cX5_when 112 = .ok (.iload 6, 2) := by decide +kernel
theorem dX5_when_114 : decode cX5_when 114 = .ok (.ireturn, 1) := by decide +kernel
theorem dX5_best_0 : decode cX5_best 0 = .ok (.iload_n 1, 1) := by decide +kernel
theorem dX5_best_1 : decode cX5_best 1 = .ok (.invokestatic 64, 3) := by decide +kernel
theorem dX5_best_4 : decode cX5_best 4 = .ok (.ifCond .eq 14, 3) := by decide +kernel
theorem dX5_best_7 : decode cX5_best 7 = .ok (.aload_n 0, 1) := by decide +kernel
theorem dX5_best_8 : decode cX5_best 8 = .ok (.getfield 25, 3) := by decide +kernel
theorem dX5_best_11 : decode cX5_best 11 = .ok (.iload_n 1, 1) := by decide +kernel
theorem dX5_best_12 : decode cX5_best 12 = .ok (.invokevirtual 140, 3) := by decide +kernel
theorem dX5_best_15 : decode cX5_best 15 = .ok (.ifCond .eq 5, 3) := by decide +kernel
theorem dX5_best_18 : decode cX5_best 18 = .ok (.iconst (-1), 1) := by decide +kernel
theorem dX5_best_19 : decode cX5_best 19 = .ok (.ireturn, 1) := by decide +kernel
theorem dX5_best_20 : decode cX5_best 20 = .ok (.aload_n 0, 1) := by decide +kernel
theorem dX5_best_21 : decode cX5_best 21 = .ok (.iload_n 2, 1) := by decide +kernel
theorem dX5_best_22 : decode cX5_best 22 = .ok (.invokevirtual 143, 3) := by decide +kernel
theorem dX5_best_25 : decode cX5_best 25 = .ok (.istore_n 3, 1) := by decide +kernel
theorem dX5_best_26 : decode cX5_best 26 = .ok (.iload_n 3, 1) := by decide +kernel
theorem dX5_best_27 : decode cX5_best 27 = .ok (.ifCond .eq 5, 3) := by decide +kernel
theorem dX5_best_30 : decode cX5_best 30 = .ok (.iload_n 3, 1) := by decide +kernel
theorem dX5_best_31 : decode cX5_best 31 = .ok (.ireturn, 1) := by decide +kernel
theorem dX5_best_32 : decode cX5_best 32 = .ok (.aload_n 0, 1) := by decide +kernel
theorem dX5_best_33 : decode cX5_best 33 = .ok (.iload_n 1, 1) := by decide +kernel
theorem dX5_best_34 : decode cX5_best 34 = .ok (.invokevirtual 146, 3) := by decide +kernel
theorem dX5_best_37 : decode cX5_best 37 = .ok (.iconst 0, 1) := by decide +kernel
theorem dX5_best_38 : decode cX5_best 38 = .ok (.istore 4, 2) := by decide +kernel
theorem dX5_best_40 : decode cX5_best 40 = .ok (.aload_n 0, 1) := by decide +kernel
theorem dX5_best_41 : decode cX5_best 41 = .ok (.iload_n 1, 1) := by decide +kernel
theorem dX5_best_42 : decode cX5_best 42 = .ok (.iconst 0, 1) := by decide +kernel
theorem dX5_best_43 : decode cX5_best 43 = .ok (.invokevirtual 152, 3) := by decide +kernel
theorem dX5_best_46 : decode cX5_best 46 = .ok (.istore 5, 2) := by decide +kernel
theorem dX5_best_48 : decode cX5_best 48 = .ok (.iconst 1, 1) := by decide +kernel
theorem dX5_best_49 : decode cX5_best 49 = .ok (.istore 6, 2) := by decide +kernel
theorem dX5_best_51 : decode cX5_best 51 = .ok (.iload 6, 2) := by decide +kernel
theorem dX5_best_53 : decode cX5_best 53 = .ok (.aload_n 0, 1) := by decide +kernel
theorem dX5_best_54 : decode cX5_best 54 = .ok (.getfield 25, 3) := by decide +kernel
theorem dX5_best_57 : decode cX5_best 57 = .ok (.getfield 89, 3) := by decide +kernel
theorem dX5_best_60 : decode cX5_best 60 = .ok (.if_icmp .gt 33, 3) := by decide +kernel
theorem dX5_best_63 : decode cX5_best 63 = .ok (.aload_n 0, 1) := by decide +kernel
theorem dX5_best_64 : decode cX5_best 64 = .ok (.iload_n 1, 1) := by decide +kernel
theorem dX5_best_65 : decode cX5_best 65 = .ok (.iload 6, 2) := by decide +kernel
theorem dX5_best_67 : decode cX5_best 67 = .ok (.invokevirtual 152, 3) := by decide +kernel
theorem dX5_best_70 : decode cX5_best 70 = .ok (.istore 7, 2) := by decide +kernel
theorem dX5_best_72 : decode cX5_best 72 = .ok (.iload 7, 2) := by decide +kernel
theorem dX5_best_74 : decode cX5_best 74 = .ok (.iload 5, 2) := by decide +kernel
theorem dX5_best_76 : decode cX5_best 76 = .ok (.if_icmp .le 11, 3) := by decide +kernel
theorem dX5_best_79 : decode cX5_best 79 = .ok (.iload 6, 2) := by decide +kernel
theorem dX5_best_81 : decode cX5_best 81 = .ok (.istore 4, 2) := by decide +kernel
theorem dX5_best_83 : decode cX5_best 83 = .ok (.iload 7, 2) := by decide +kernel
theorem dX5_best_85 : decode cX5_best 85 = .ok (.istore 5, 2) := by decide +kernel
theorem dX5_best_87 : decode cX5_best 87 = .ok (.iinc 6 1, 3) := by decide +kernel
theorem dX5_best_90 : decode cX5_best 90 = .ok (.goto (-39), 3) := by decide +kernel
theorem dX5_best_93 : decode cX5_best 93 = .ok (.iload_n 2, 1) := by decide +kernel
theorem dX5_best_94 : decode cX5_best 94 = .ok (.ifCond .ne 8, 3) := by decide +kernel
theorem dX5_best_97 : decode cX5_best 97 = .ok (.iload 4, 2) := by decide +kernel
theorem dX5_best_99 : decode cX5_best 99 = .ok (.goto 5, 3) := by decide +kernel
theorem dX5_best_102 : decode cX5_best 102 = .ok (.iload 5, 2) := by decide +kernel
theorem dX5_best_104 : decode cX5_best 104 = .ok (.ireturn, 1) := by decide +kernel
theorem dX5_reach_0 : decode cX5_reach 0 = .ok (.aload_n 0, 1) := by decide +kernel
theorem dX5_reach_1 : decode cX5_reach 1 = .ok (.iload_n 1, 1) := by decide +kernel
theorem dX5_reach_2 : decode cX5_reach 2 = .ok (.invokevirtual 68, 3) := by decide +kernel
theorem dX5_reach_5 : decode cX5_reach 5 = .ok (.ifCond .ne 5, 3) := by decide +kernel
theorem dX5_reach_8 : decode cX5_reach 8 = .ok (.iconst (-1), 1) := by decide +kernel
theorem dX5_reach_9 : decode cX5_reach 9 = .ok (.ireturn, 1) := by decide +kernel
theorem dX5_reach_10 : decode cX5_reach 10 = .ok (.aload_n 0, 1) := by decide +kernel
theorem dX5_reach_11 : decode cX5_reach 11 = .ok (.iconst (-1), 1) := by decide +kernel
theorem dX5_reach_12 : decode cX5_reach 12 = .ok (.invokevirtual 119, 3) := by decide +kernel
theorem dX5_reach_15 : decode cX5_reach 15 = .ok (.istore_n 2, 1) := by decide +kernel
theorem dX5_reach_16 : decode cX5_reach 16 = .ok (.iload_n 2, 1) := by decide +kernel
theorem dX5_reach_17 : decode cX5_reach 17 = .ok (.ifCond .eq 5, 3) := by decide +kernel
theorem dX5_reach_20 : decode cX5_reach 20 = .ok (.iload_n 2, 1) := by decide +kernel
theorem dX5_reach_21 : decode cX5_reach 21 = .ok (.ireturn, 1) := by decide +kernel
theorem dX5_reach_22 : decode cX5_reach 22 = .ok (.iconst 0, 1) := by decide +kernel
theorem dX5_reach_23 : decode cX5_reach 23 = .ok (.istore_n 3, 1) := by decide +kernel
theorem dX5_reach_24 : decode cX5_reach 24 = .ok (.iload_n 3, 1) := by decide +kernel
theorem dX5_reach_25 : decode cX5_reach 25 = .ok (.bipush 8, 2) := by decide +kernel
theorem dX5_reach_27 : decode cX5_reach 27 = .ok (.if_icmp .ge 30, 3) := by decide +kernel
theorem dX5_reach_30 : decode cX5_reach 30 = .ok (.aload_n 0, 1) := by decide +kernel
theorem dX5_reach_31 : decode cX5_reach 31 = .ok (.getfield 52, 3) := by decide +kernel
theorem dX5_reach_34 : decode cX5_reach 34 = .ok (.iload_n 1, 1) := by decide +kernel
theorem dX5_reach_35 : decode cX5_reach 35 = .ok (.invokevirtual 125, 3) := by decide +kernel
theorem dX5_reach_38 : decode cX5_reach 38 = .ok (.iconst (-1), 1) := by decide +kernel
theorem dX5_reach_39 : decode cX5_reach 39 = .ok (.if_icmp .ne 18, 3) := by decide +kernel
theorem dX5_reach_42 : decode cX5_reach 42 = .ok (.aload_n 0, 1) := by decide +kernel
theorem dX5_reach_43 : decode cX5_reach 43 = .ok (.getfield 52, 3) := by decide +kernel
theorem dX5_reach_46 : decode cX5_reach 46 = .ok (.bipush 8, 2) := by decide +kernel
theorem dX5_reach_48 : decode cX5_reach 48 = .ok (.invokevirtual 155, 3) := by decide +kernel
theorem dX5_reach_51 : decode cX5_reach 51 = .ok (.iinc 3 1, 3) := by decide +kernel
theorem dX5_reach_54 : decode cX5_reach 54 = .ok (.goto (-30), 3) := by decide +kernel
theorem dX5_reach_57 : decode cX5_reach 57 = .ok (.iload_n 3, 1) := by decide +kernel
theorem dX5_reach_58 : decode cX5_reach 58 = .ok (.ireturn, 1) := by decide +kernel
theorem dX5_party_0 : decode cX5_party 0 = .ok (.iload_n 1, 1) := by decide +kernel
theorem dX5_party_1 : decode cX5_party 1 = .ok (.iconst 1, 1) := by decide +kernel
theorem dX5_party_2 : decode cX5_party 2 = .ok (.if_icmp .lt 10, 3) := by decide +kernel
theorem dX5_party_5 : decode cX5_party 5 = .ok (.iload_n 1, 1) := by decide +kernel
theorem dX5_party_6 : decode cX5_party 6 = .ok (.sipush 255, 3) := by decide +kernel
theorem dX5_party_9 : decode cX5_party 9 = .ok (.if_icmp .le 6, 3) := by decide +kernel
theorem dX5_party_12 : decode cX5_party 12 = .ok (.bipush (-2), 2) := by decide +kernel
theorem dX5_party_14 : decode cX5_party 14 = .ok (.ireturn, 1) := by decide +kernel
theorem dX5_party_15 : decode cX5_party 15 = .ok (.aload_n 0, 1) := by decide +kernel
theorem dX5_party_16 : decode cX5_party 16 = .ok (.iconst (-1), 1) := by decide +kernel
theorem dX5_party_17 : decode cX5_party 17 = .ok (.invokevirtual 119, 3) := by decide +kernel
theorem dX5_party_20 : decode cX5_party 20 = .ok (.istore_n 3, 1) := by decide +kernel
theorem dX5_party_21 : decode cX5_party 21 = .ok (.iload_n 3, 1) := by decide +kernel
theorem dX5_party_22 : decode cX5_party 22 = .ok (.ifCond .eq 5, 3) := by decide +kernel
theorem dX5_party_25 : decode cX5_party 25 = .ok (.iload_n 3, 1) := by decide +kernel
theorem dX5_party_26 : decode cX5_party 26 = .ok (.ireturn, 1) := by decide +kernel
theorem dX5_party_27 : decode cX5_party 27 = .ok (.iload_n 1, 1) := by decide +kernel
theorem dX5_party_28 : decode cX5_party 28 = .ok (.aload_n 0, 1) := by decide +kernel
theorem dX5_party_29 : decode cX5_party 29 = .ok (.getfield 52, 3) := by decide +kernel
theorem dX5_party_32 : decode cX5_party 32 = .ok (.getfield 158, 3) := by decide +kernel
theorem dX5_party_35 : decode cX5_party 35 = .ok (.iand, 1) := by decide +kernel
theorem dX5_party_36 : decode cX5_party 36 = .ok (.ifCond .eq 6, 3) := by decide +kernel
theorem dX5_party_39 : decode cX5_party 39 = .ok (.bipush (-5), 2) := by decide +kernel
theorem dX5_party_41 : decode cX5_party 41 = .ok (.ireturn, 1) := by decide +kernel
theorem dX5_party_42 : decode cX5_party 42 = .ok (.iload_n 1, 1) := by decide +kernel
theorem dX5_party_43 : decode cX5_party 43 = .ok (.invokestatic 161, 3) := by decide +kernel
theorem dX5_party_46 : decode cX5_party 46 = .ok (.bipush 6, 2) := by decide +kernel
theorem dX5_party_48 : decode cX5_party 48 = .ok (.if_icmp .le 6, 3) := by decide +kernel
theorem dX5_party_51 : decode cX5_party 51 = .ok (.bipush (-4), 2) := by decide +kernel
theorem dX5_party_53 : decode cX5_party 53 = .ok (.ireturn, 1) := by decide +kernel
theorem dX5_party_54 : decode cX5_party 54 = .ok (.aload_n 0, 1) := by decide +kernel
theorem dX5_party_55 : decode cX5_party 55 = .ok (.getfield 32, 3) := by decide +kernel
theorem dX5_party_58 : decode cX5_party 58 = .ok (.aload_n 0, 1) := by decide +kernel
theorem dX5_party_59 : decode cX5_party 59 = .ok (.getfield 52, 3) := by decide +kernel
theorem dX5_party_62 : decode cX5_party 62 = .ok (.iload_n 1, 1) := by decide +kernel
theorem dX5_party_63 : decode cX5_party 63 = .ok (.invokevirtual 166, 3) := by decide +kernel
theorem dX5_party_66 : decode cX5_party 66 = .ok (.iload_n 2, 1) := by decide +kernel
theorem dX5_party_67 : decode cX5_party 67 = .ok (.iconst (-1), 1) := by decide +kernel
theorem dX5_party_68 : decode cX5_party 68 = .ok (.if_icmp .ne 13, 3) := by decide +kernel
theorem dX5_party_71 : decode cX5_party 71 = .ok (.aload_n 0, 1) := by decide +kernel
theorem dX5_party_72 : decode cX5_party 72 = .ok (.getfield 32, 3) := by decide +kernel
theorem dX5_party_75 : decode cX5_party 75 = .ok (.getfield 170, 3) := by decide +kernel
theorem dX5_party_78 : decode cX5_party 78 = .ok (.goto 11, 3) := by decide +kernel
theorem dX5_party_81 : decode cX5_party 81 = .ok (.aload_n 0, 1) := by decide +kernel
theorem dX5_party_82 : decode cX5_party 82 = .ok (.getfield 32, 3) := by decide +kernel
theorem dX5_party_85 : decode cX5_party 85 = .ok (.iload_n 2, 1) := by decide +kernel
theorem dX5_party_86 : decode cX5_party 86 = .ok (.invokevirtual 173, 3) := by decide +kernel
theorem dX5_party_89 : decode cX5_party 89 = .ok (.ireturn, 1) := by decide +kernel
theorem dX5_fleas_0 : decode cX5_fleas 0 = .ok (.iload_n 1, 1) := by decide +kernel
theorem dX5_fleas_1 : decode cX5_fleas 1 = .ok (.ifCond .lt 17, 3) := by decide +kernel
theorem dX5_fleas_4 : decode cX5_fleas 4 = .ok (.iload_n 1, 1) := by decide +kernel
theorem dX5_fleas_5 : decode cX5_fleas 5 = .ok (.bipush 8, 2) := by decide +kernel
theorem dX5_fleas_7 : decode cX5_fleas 7 = .ok (.aload_n 0, 1) := by decide +kernel
theorem dX5_fleas_8 : decode cX5_fleas 8 = .ok (.getfield 12, 3) := by decide +kernel
theorem dX5_fleas_11 : decode cX5_fleas 11 = .ok (.getfield 56, 3) := by decide +kernel
theorem dX5_fleas_14 : decode cX5_fleas 14 = .ok (.iadd, 1) := by decide +kernel
theorem dX5_fleas_15 : decode cX5_fleas 15 = .ok (.if_icmp .lt 5, 3) := by decide +kernel
theorem dX5_fleas_18 : decode cX5_fleas 18 = .ok (.iconst (-1), 1) := by decide +kernel
theorem dX5_fleas_19 : decode cX5_fleas 19 = .ok (.ireturn, 1) := by decide +kernel
theorem dX5_fleas_20 : decode cX5_fleas 20 = .ok (.iload_n 2, 1) := by decide +kernel
theorem dX5_fleas_21 : decode cX5_fleas 21 = .ok (.invokestatic 96, 3) := by decide +kernel
theorem dX5_fleas_24 : decode cX5_fleas 24 = .ok (.ifCond .ne 6, 3) := by decide +kernel
theorem dX5_fleas_27 : decode cX5_fleas 27 = .ok (.bipush (-2), 2) := by decide +kernel
theorem dX5_fleas_29 : decode cX5_fleas 29 = .ok (.ireturn, 1) := by decide +kernel
theorem dX5_fleas_30 : decode cX5_fleas 30 = .ok (.aload_n 0, 1) := by decide +kernel
theorem dX5_fleas_31 : decode cX5_fleas 31 = .ok (.iconst (-1), 1) := by decide +kernel
theorem dX5_fleas_32 : decode cX5_fleas 32 = .ok (.invokevirtual 119, 3) := by decide +kernel
theorem dX5_fleas_35 : decode cX5_fleas 35 = .ok (.istore_n 3, 1) := by decide +kernel
theorem dX5_fleas_36 : decode cX5_fleas 36 = .ok (.iload_n 3, 1) := by decide +kernel
theorem dX5_fleas_37 : decode cX5_fleas 37 = .ok (.ifCond .eq 5, 3) := by decide +kernel
theorem dX5_fleas_40 : decode cX5_fleas 40 = .ok (.iload_n 3, 1) := by decide +kernel
theorem dX5_fleas_41 : decode cX5_fleas 41 = .ok (.ireturn, 1) := by decide +kernel
theorem dX5_fleas_42 : decode cX5_fleas 42 = .ok (.aload_n 0, 1) := by decide +kernel
theorem dX5_fleas_43 : decode cX5_fleas 43 = .ok (.iload_n 1, 1) := by decide +kernel
theorem dX5_fleas_44 : decode cX5_fleas 44 = .ok (.invokevirtual 176, 3) := by decide +kernel
theorem dX5_fleas_47 : decode cX5_fleas 47 = .ok (.iload_n 2, 1) := by decide +kernel
theorem dX5_fleas_48 : decode cX5_fleas 48 = .ok (.ifCond .ne 13, 3) := by decide +kernel
theorem dX5_fleas_51 : decode cX5_fleas 51 = .ok (.aload_n 0, 1) := by decide +kernel
theorem dX5_fleas_52 : decode cX5_fleas 52 = .ok (.getfield 52, 3) := by decide +kernel
theorem dX5_fleas_55 : decode cX5_fleas 55 = .ok (.getfield 179, 3) := by decide +kernel
theorem dX5_fleas_58 : decode cX5_fleas 58 = .ok (.goto 10, 3) := by decide +kernel
theorem dX5_fleas_61 : decode cX5_fleas 61 = .ok (.aload_n 0, 1) := by decide +kernel
theorem dX5_fleas_62 : decode cX5_fleas 62 = .ok (.getfield 52, 3) := by decide +kernel
theorem dX5_fleas_65 : decode cX5_fleas 65 = .ok (.getfield 182, 3) := by decide +kernel
theorem dX5_fleas_68 : decode cX5_fleas 68 = .ok (.ireturn, 1) := by decide +kernel
theorem dX5_brought_0 : decode cX5_brought 0 = .ok (.iload_n 1, 1) := by decide +kernel
theorem dX5_brought_1 : decode cX5_brought 1 = .ok (.ifCond .lt 10, 3) := by decide +kernel
theorem dX5_brought_4 : decode cX5_brought 4 = .ok (.iload_n 1, 1) := by decide +kernel
theorem dX5_brought_5 : decode cX5_brought 5 = .ok (.sipush 255, 3) := by decide +kernel
theorem dX5_brought_8 : decode cX5_brought 8 = .ok (.if_icmp .le 6, 3) := by decide +kernel
theorem dX5_brought_11 : decode cX5_brought 11 = .ok (.bipush (-2), 2) := by decide +kernel
theorem dX5_brought_13 : decode cX5_brought 13 = .ok (.ireturn, 1) := by decide +kernel
theorem dX5_brought_14 : decode cX5_brought 14 = .ok (.aload_n 0, 1) := by decide +kernel
theorem dX5_brought_15 : decode cX5_brought 15 = .ok (.iconst (-1), 1) := by decide +kernel
theorem dX5_brought_16 : decode cX5_brought 16 = .ok (.invokevirtual 119, 3) := by decide +kernel
theorem dX5_brought_19 : decode cX5_brought 19 = .ok (.istore_n 2, 1) := by decide +kernel
theorem dX5_brought_20 : decode cX5_brought 20 = .ok (.iload_n 2, 1) := by decide +kernel
theorem dX5_brought_21 : decode cX5_brought 21 = .ok (.ifCond .eq 5, 3) := by decide +kernel
theorem dX5_brought_24 : decode cX5_brought 24 = .ok (.iload_n 2, 1) := by decide +kernel
theorem dX5_brought_25 : decode cX5_brought 25 = .ok (.ireturn, 1) := by decide +kernel
theorem dX5_brought_26 : decode cX5_brought 26 = .ok (.iconst 0, 1) := by decide +kernel
theorem dX5_brought_27 : decode cX5_brought 27 = .ok (.istore_n 3, 1) := by decide +kernel
theorem dX5_brought_28 : decode cX5_brought 28 = .ok (.iconst 0, 1) := by decide +kernel
theorem dX5_brought_29 : decode cX5_brought 29 = .ok (.istore 4, 2) := by decide +kernel
theorem dX5_brought_31 : decode cX5_brought 31 = .ok (.iload 4, 2) := by decide +kernel
theorem dX5_brought_33 : decode cX5_brought 33 = .ok (.bipush 8, 2) := by decide +kernel
theorem dX5_brought_35 : decode cX5_brought 35 = .ok (.if_icmp .ge 33, 3) := by decide +kernel
theorem dX5_brought_38 : decode cX5_brought 38 = .ok (.aload_n 0, 1) := by decide +kernel
theorem dX5_brought_39 : decode cX5_brought 39 = .ok (.iload 4, 2) := by decide +kernel
theorem dX5_brought_41 : decode cX5_brought 41 = .ok (.invokevirtual 176, 3) := by decide +kernel
theorem dX5_brought_44 : decode cX5_brought 44 = .ok (.aload_n 0, 1) := by decide +kernel
theorem dX5_brought_45 : decode cX5_brought 45 = .ok (.getfield 52, 3) := by decide +kernel
theorem dX5_brought_48 : decode cX5_brought 48 = .ok (.getfield 179, 3) := by decide +kernel
theorem dX5_brought_51 : decode cX5_brought 51 = .ok (.iload_n 1, 1) := by decide +kernel
theorem dX5_brought_52 : decode cX5_brought 52 = .ok (.if_icmp .ne 10, 3) := by decide +kernel
theorem dX5_brought_55 : decode cX5_brought 55 = .ok (.iload_n 3, 1) := by decide +kernel
theorem dX5_brought_56 : decode cX5_brought 56 = .ok (.iconst 1, 1) := by decide +kernel
theorem dX5_brought_57 : decode cX5_brought 57 = .ok (.iload 4, 2) := by decide +kernel
theorem dX5_brought_59 : decode cX5_brought 59 = .ok (.ishl, 1) := by decide +kernel
theorem dX5_brought_60 : decode cX5_brought 60 = .ok (.ior, 1) := by decide +kernel
theorem dX5_brought_61 : decode cX5_brought 61 = .ok (.istore_n 3, 1) := by decide +kernel
theorem dX5_brought_62 : decode cX5_brought 62 = .ok (.iinc 4 1, 3) := by decide +kernel
theorem dX5_brought_65 : decode cX5_brought 65 = .ok (.goto (-34), 3) := by decide +kernel
theorem dX5_brought_68 : decode cX5_brought 68 = .ok (.iload_n 3, 1) := by decide +kernel
theorem dX5_brought_69 : decode cX5_brought 69 = .ok (.ireturn, 1) := by decide +kernel
theorem dX5_seen_0 : decode cX5_seen 0 = .ok (.iload_n 1, 1) := by decide +kernel
theorem dX5_seen_1 : decode cX5_seen 1 = .ok (.invokestatic 64, 3) := by decide +kernel
theorem dX5_seen_4 : decode cX5_seen 4 = .ok (.ifCond .eq 11, 3) := by decide +kernel
theorem dX5_seen_7 : decode cX5_seen 7 = .ok (.aload_n 0, 1) := by decide +kernel
theorem dX5_seen_8 : decode cX5_seen 8 = .ok (.iload_n 2, 1) := by decide +kernel
theorem dX5_seen_9 : decode cX5_seen 9 = .ok (.invokevirtual 68, 3) := by decide +kernel
theorem dX5_seen_12 : decode cX5_seen 12 = .ok (.ifCond .ne 5, 3) := by decide +kernel
theorem dX5_seen_15 : decode cX5_seen 15 = .ok (.iconst (-1), 1) := by decide +kernel
theorem dX5_seen_16 : decode cX5_seen 16 = .ok (.ireturn, 1) := by decide +kernel
theorem dX5_seen_17 : decode cX5_seen 17 = .ok (.aload_n 0, 1) := by decide +kernel
theorem dX5_seen_18 : decode cX5_seen 18 = .ok (.getfield 12, 3) := by decide +kernel
theorem dX5_seen_21 : decode cX5_seen 21 = .ok (.getfield 185, 3) := by decide +kernel
theorem dX5_seen_24 : decode cX5_seen 24 = .ok (.bipush 6, 2) := by decide +kernel
theorem dX5_seen_26 : decode cX5_seen 26 = .ok (.if_icmp .lt 6, 3) := by decide +kernel
theorem dX5_seen_29 : decode cX5_seen 29 = .ok (.bipush (-4), 2) := by decide +kernel
theorem dX5_seen_31 : decode cX5_seen 31 = .ok (.ireturn, 1) := by decide +kernel
theorem dX5_seen_32 : decode cX5_seen 32 = .ok (.aload_n 0, 1) := by decide +kernel
theorem dX5_seen_33 : decode cX5_seen 33 = .ok (.getfield 12, 3) := by decide +kernel
theorem dX5_seen_36 : decode cX5_seen 36 = .ok (.iload_n 1, 1) := by decide +kernel
theorem dX5_seen_37 : decode cX5_seen 37 = .ok (.iload_n 2, 1) := by decide +kernel
theorem dX5_seen_38 : decode cX5_seen 38 = .ok (.invokevirtual 188, 3) := by decide +kernel
theorem dX5_seen_41 : decode cX5_seen 41 = .ok (.aload_n 0, 1) := by decide +kernel
theorem dX5_seen_42 : decode cX5_seen 42 = .ok (.getfield 12, 3) := by decide +kernel
theorem dX5_seen_45 : decode cX5_seen 45 = .ok (.getfield 185, 3) := by decide +kernel
theorem dX5_seen_48 : decode cX5_seen 48 = .ok (.ireturn, 1) := by decide +kernel
theorem dX5_forget_0 : decode cX5_forget 0 = .ok (.aload_n 0, 1) := by decide +kernel
theorem dX5_forget_1 : decode cX5_forget 1 = .ok (.getfield 12, 3) := by decide +kernel
theorem dX5_forget_4 : decode cX5_forget 4 = .ok (.getfield 185, 3) := by decide +kernel
theorem dX5_forget_7 : decode cX5_forget 7 = .ok (.istore_n 1, 1) := by decide +kernel
theorem dX5_forget_8 : decode cX5_forget 8 = .ok (.aload_n 0, 1) := by decide +kernel
theorem dX5_forget_9 : decode cX5_forget 9 = .ok (.getfield 12, 3) := by decide +kernel
theorem dX5_forget_12 : decode cX5_forget 12 = .ok (.iconst 0, 1) := by decide +kernel
theorem dX5_forget_13 : decode cX5_forget 13 = .ok (.putfield 185, 3) := by decide +kernel
theorem dX5_forget_16 : decode cX5_forget 16 = .ok (.iload_n 1, 1) := by decide +kernel
theorem dX5_forget_17 : decode cX5_forget 17 = .ok (.ireturn, 1) := by decide +kernel
theorem dX5_filled_0 : decode cX5_filled 0 = .ok (.aload_n 0, 1) := by decide +kernel
theorem dX5_filled_1 : decode cX5_filled 1 = .ok (.getfield 25, 3) := by decide +kernel
theorem dX5_filled_4 : decode cX5_filled 4 = .ok (.invokevirtual 92, 3) := by decide +kernel
theorem dX5_filled_7 : decode cX5_filled 7 = .ok (.bipush (-6), 2) := by decide +kernel
theorem dX5_filled_9 : decode cX5_filled 9 = .ok (.if_icmp .eq 6, 3) := by decide +kernel
theorem dX5_filled_12 : decode cX5_filled 12 = .ok (.bipush (-5), 2) := by decide +kernel
theorem dX5_filled_14 : decode cX5_filled 14 = .ok (.ireturn, 1) := by decide +kernel
theorem dX5_filled_15 : decode cX5_filled 15 = .ok (.aload_n 0, 1) := by decide +kernel
theorem dX5_filled_16 : decode cX5_filled 16 = .ok (.getfield 39, 3) := by decide +kernel
theorem dX5_filled_19 : decode cX5_filled 19 = .ok (.aload_n 0, 1) := by decide +kernel
theorem dX5_filled_20 : decode cX5_filled 20 = .ok (.getfield 52, 3) := by decide +kernel
theorem dX5_filled_23 : decode cX5_filled 23 = .ok (.aload_n 0, 1) := by decide +kernel
theorem dX5_filled_24 : decode cX5_filled 24 = .ok (.getfield 25, 3) := by decide +kernel
theorem dX5_filled_27 : decode cX5_filled 27 = .ok (.aload_n 0, 1) := by decide +kernel
theorem dX5_filled_28 : decode cX5_filled 28 = .ok (.getfield 12, 3) := by decide +kernel
theorem dX5_filled_31 : decode cX5_filled 31 = .ok (.invokevirtual 192, 3) := by decide +kernel
theorem dX5_filled_34 : decode cX5_filled 34 = .ok (.iload_n 1, 1) := by decide +kernel
theorem dX5_filled_35 : decode cX5_filled 35 = .ok (.iconst (-1), 1) := by decide +kernel
theorem dX5_filled_36 : decode cX5_filled 36 = .ok (.if_icmp .ne 13, 3) := by decide +kernel
theorem dX5_filled_39 : decode cX5_filled 39 = .ok (.aload_n 0, 1) := by decide +kernel
theorem dX5_filled_40 : decode cX5_filled 40 = .ok (.getfield 39, 3) := by decide +kernel
theorem dX5_filled_43 : decode cX5_filled 43 = .ok (.getfield 196, 3) := by decide +kernel
theorem dX5_filled_46 : decode cX5_filled 46 = .ok (.goto 11, 3) := by decide +kernel
theorem dX5_filled_49 : decode cX5_filled 49 = .ok (.aload_n 0, 1) := by decide +kernel
theorem dX5_filled_50 : decode cX5_filled 50 = .ok (.getfield 39, 3) := by decide +kernel
theorem dX5_filled_53 : decode cX5_filled 53 = .ok (.iload_n 1, 1) := by decide +kernel
theorem dX5_filled_54 : decode cX5_filled 54 = .ok (.invokevirtual 199, 3) := by decide +kernel
theorem dX5_filled_57 : decode cX5_filled 57 = .ok (.ireturn, 1) := by decide +kernel
theorem dX5_could_0 : decode cX5_could 0 = .ok (.aload_n 0, 1) := by decide +kernel
theorem dX5_could_1 : decode cX5_could 1 = .ok (.getfield 25, 3) := by decide +kernel
theorem dX5_could_4 : decode cX5_could 4 = .ok (.invokevirtual 92, 3) := by decide +kernel
theorem dX5_could_7 : decode cX5_could 7 = .ok (.bipush (-6), 2) := by decide +kernel
theorem dX5_could_9 : decode cX5_could 9 = .ok (.if_icmp .eq 6, 3) := by decide +kernel
theorem dX5_could_12 : decode cX5_could 12 = .ok (.bipush (-5), 2) := by decide +kernel
theorem dX5_could_14 : decode cX5_could 14 = .ok (.ireturn, 1) := by decide +kernel
theorem dX5_could_15 : decode cX5_could 15 = .ok (.aload_n 0, 1) := by decide +kernel
theorem dX5_could_16 : decode cX5_could 16 = .ok (.getfield 39, 3) := by decide +kernel
theorem dX5_could_19 : decode cX5_could 19 = .ok (.aload_n 0, 1) := by decide +kernel
theorem dX5_could_20 : decode cX5_could 20 = .ok (.getfield 52, 3) := by decide +kernel
theorem dX5_could_23 : decode cX5_could 23 = .ok (.aload_n 0, 1) := by decide +kernel
theorem dX5_could_24 : decode cX5_could 24 = .ok (.getfield 25, 3) := by decide +kernel
theorem dX5_could_27 : decode cX5_could 27 = .ok (.aload_n 0, 1) := by decide +kernel
theorem dX5_could_28 : decode cX5_could 28 = .ok (.getfield 12, 3) := by decide +kernel
theorem dX5_could_31 : decode cX5_could 31 = .ok (.invokevirtual 192, 3) := by decide +kernel
theorem dX5_could_34 : decode cX5_could 34 = .ok (.aload_n 0, 1) := by decide +kernel
theorem dX5_could_35 : decode cX5_could 35 = .ok (.getfield 39, 3) := by decide +kernel
theorem dX5_could_38 : decode cX5_could 38 = .ok (.iload_n 1, 1) := by decide +kernel
theorem dX5_could_39 : decode cX5_could 39 = .ok (.invokevirtual 202, 3) := by decide +kernel
theorem dX5_could_42 : decode cX5_could 42 = .ok (.ireturn, 1) := by decide +kernel
theorem dX5_chance_0 : decode cX5_chance 0 = .ok (.aload_n 0, 1) := by decide +kernel
theorem dX5_chance_1 : decode cX5_chance 1 = .ok (.iload_n 1, 1) := by decide +kernel
theorem dX5_chance_2 : decode cX5_chance 2 = .ok (.invokevirtual 68, 3) := by decide +kernel
theorem dX5_chance_5 : decode cX5_chance 5 = .ok (.ifCond .ne 7, 3) := by decide +kernel
theorem dX5_chance_8 : decode cX5_chance 8 = .ok (.ldc2_w 205, 3) := by decide +kernel
theorem dX5_chance_11 : decode cX5_chance 11 = .ok (.lreturn, 1) := by decide +kernel
theorem dX5_chance_12 : decode cX5_chance 12 = .ok (.iload_n 2, 1) := by decide +kernel
theorem dX5_chance_13 : decode cX5_chance 13 = .ok (.ifCond .lt 27, 3) := by decide +kernel
theorem dX5_chance_16 : decode cX5_chance 16 = .ok (.iload_n 2, 1) := by decide +kernel
theorem dX5_chance_17 : decode cX5_chance 17 = .ok (.bipush 8, 2) := by decide +kernel
theorem dX5_chance_19 : decode cX5_chance 19 = .ok (.if_icmp .gt 21, 3) := by decide +kernel
theorem dX5_chance_22 : decode cX5_chance 22 = .ok (.iload_n 3, 1) := by decide +kernel
theorem dX5_chance_23 : decode cX5_chance 23 = .ok (.ifCond .lt 17, 3) := by decide +kernel
theorem dX5_chance_26 : decode cX5_chance 26 = .ok (.iload_n 3, 1) := by decide +kernel
theorem dX5_chance_27 : decode cX5_chance 27 = .ok (.bipush 10, 2) := by decide +kernel
theorem dX5_chance_29 : decode cX5_chance 29 = .ok (.if_icmp .gt 11, 3) := by decide +kernel
theorem dX5_chance_32 : decode cX5_chance 32 = .ok (.iload 4, 2) := by decide +kernel
theorem dX5_chance_34 : decode cX5_chance 34 = .ok (.invokestatic 96, 3) := by decide +kernel
theorem dX5_chance_37 : decode cX5_chance 37 = .ok (.ifCond .ne 7, 3) := by decide +kernel
theorem dX5_chance_40 : decode cX5_chance 40 = .ok (.ldc2_w 207, 3) := by decide +kernel
theorem dX5_chance_43 : decode cX5_chance 43 = .ok (.lreturn, 1) := by decide +kernel
theorem dX5_chance_44 : decode cX5_chance 44 = .ok (.aload_n 0, 1) := by decide +kernel
theorem dX5_chance_45 : decode cX5_chance 45 = .ok (.iconst (-1), 1) := by decide +kernel
theorem dX5_chance_46 : decode cX5_chance 46 = .ok (.invokevirtual 119, 3) := by decide +kernel
theorem dX5_chance_49 : decode cX5_chance 49 = .ok (.istore 5, 2) := by decide +kernel
theorem dX5_chance_51 : decode cX5_chance 51 = .ok (.iload 5, 2) := by decide +kernel
theorem dX5_chance_53 : decode cX5_chance 53 = .ok (.ifCond .eq 11, 3) := by decide +kernel
theorem dX5_chance_56 : decode cX5_chance 56 = .ok (.ldc2_w 209, 3) := by decide +kernel
theorem dX5_chance_59 : decode cX5_chance 59 = .ok (.iload 5, 2) := by decide +kernel
theorem dX5_chance_61 : decode cX5_chance 61 = .ok (.i2l, 1) := by decide +kernel
theorem dX5_chance_62 : decode cX5_chance 62 = .ok (.ladd, 1) := by decide +kernel
theorem dX5_chance_63 : decode cX5_chance 63 = .ok (.lreturn, 1) := by decide +kernel
theorem dX5_chance_64 : decode cX5_chance 64 = .ok (.aload_n 0, 1) := by decide +kernel
theorem dX5_chance_65 : decode cX5_chance 65 = .ok (.getfield 52, 3) := by decide +kernel
theorem dX5_chance_68 : decode cX5_chance 68 = .ok (.iload_n 1, 1) := by decide +kernel
theorem dX5_chance_69 : decode cX5_chance 69 = .ok (.iload_n 2, 1) := by decide +kernel
theorem dX5_chance_70 : decode cX5_chance 70 = .ok (.iload_n 3, 1) := by decide +kernel
theorem dX5_chance_71 : decode cX5_chance 71 = .ok (.invokestatic 211, 3) := by decide +kernel
theorem dX5_chance_74 : decode cX5_chance 74 = .ok (.iload_n 2, 1) := by decide +kernel
theorem dX5_chance_75 : decode cX5_chance 75 = .ok (.iload 4, 2) := by decide +kernel
theorem dX5_chance_77 : decode cX5_chance 77 = .ok (.invokestatic 215, 3) := by decide +kernel
theorem dX5_chance_80 : decode cX5_chance 80 = .ok (.lreturn, 1) := by decide +kernel
theorem dX5_year_0 : decode cX5_year 0 = .ok (.aload_n 0, 1) := by decide +kernel
theorem dX5_year_1 : decode cX5_year 1 = .ok (.iload_n 3, 1) := by decide +kernel
theorem dX5_year_2 : decode cX5_year 2 = .ok (.invokevirtual 68, 3) := by decide +kernel
theorem dX5_year_5 : decode cX5_year 5 = .ok (.ifCond .ne 5, 3) := by decide +kernel
theorem dX5_year_8 : decode cX5_year 8 = .ok (.iconst (-1), 1) := by decide +kernel
theorem dX5_year_9 : decode cX5_year 9 = .ok (.ireturn, 1) := by decide +kernel
theorem dX5_year_10 : decode cX5_year 10 = .ok (.iload_n 1, 1) := by decide +kernel
theorem dX5_year_11 : decode cX5_year 11 = .ok (.ifCond .lt 21, 3) := by decide +kernel
theorem dX5_year_14 : decode cX5_year 14 = .ok (.iload_n 1, 1) := by decide +kernel
theorem dX5_year_15 : decode cX5_year 15 = .ok (.sipush 9999, 3) := by decide +kernel
theorem dX5_year_18 : decode cX5_year 18 = .ok (.if_icmp .gt 14, 3) := by decide +kernel
theorem dX5_year_21 : decode cX5_year 21 = .ok (.iload_n 2, 1) := by decide +kernel
theorem dX5_year_22 : decode cX5_year 22 = .ok (.iconst 1, 1) := by decide +kernel
theorem dX5_year_23 : decode cX5_year 23 = .ok (.if_icmp .lt 9, 3) := by decide +kernel
theorem dX5_year_26 : decode cX5_year 26 = .ok (.iload_n 2, 1) := by decide +kernel
theorem dX5_year_27 : decode cX5_year 27 = .ok (.bipush 99, 2) := by decide +kernel
theorem dX5_year_29 : decode cX5_year 29 = .ok (.if_icmp .le 6, 3) := by decide +kernel
theorem dX5_year_32 : decode cX5_year 32 = .ok (.bipush (-2), 2) := by decide +kernel
theorem dX5_year_34 : decode cX5_year 34 = .ok (.ireturn, 1) := by decide +kernel
theorem dX5_year_35 : decode cX5_year 35 = .ok (.aload_n 0, 1) := by decide +kernel
theorem dX5_year_36 : decode cX5_year 36 = .ok (.getfield 52, 3) := by decide +kernel
theorem dX5_year_39 : decode cX5_year 39 = .ok (.aload_n 0, 1) := by decide +kernel
theorem dX5_year_40 : decode cX5_year 40 = .ok (.getfield 12, 3) := by decide +kernel
theorem dX5_year_43 : decode cX5_year 43 = .ok (.getfield 79, 3) := by decide +kernel
theorem dX5_year_46 : decode cX5_year 46 = .ok (.invokevirtual 102, 3) := by decide +kernel
theorem dX5_year_49 : decode cX5_year 49 = .ok (.iload_n 1, 1) := by decide +kernel
theorem dX5_year_50 : decode cX5_year 50 = .ok (.istore 4, 2) := by decide +kernel
theorem dX5_year_52 : decode cX5_year 52 = .ok (.iconst 0, 1) := by decide +kernel
theorem dX5_year_53 : decode cX5_year 53 = .ok (.istore 5, 2) := by decide +kernel
theorem dX5_year_55 : decode cX5_year 55 = .ok (.iload 5, 2) := by decide +kernel
theorem dX5_year_57 : decode cX5_year 57 = .ok (.iload_n 2, 1) := by decide +kernel
theorem dX5_year_58 : decode cX5_year 58 = .ok (.if_icmp .ge 62, 3) := by decide +kernel
theorem dX5_year_61 : decode cX5_year 61 = .ok (.bipush 75, 2) := by decide +kernel
theorem dX5_year_63 : decode cX5_year 63 = .ok (.iload 4, 2) := by decide +kernel
theorem dX5_year_65 : decode cX5_year 65 = .ok (.imul, 1) := by decide +kernel
theorem dX5_year_66 : decode cX5_year 66 = .ok (.bipush 74, 2) := by decide +kernel
theorem dX5_year_68 : decode cX5_year 68 = .ok (.iadd, 1) := by decide +kernel
theorem dX5_year_69 : decode cX5_year 69 = .ok (.ldc 219, 2) := by decide +kernel
theorem dX5_year_71 : decode cX5_year 71 = .ok (.irem, 1) := by decide +kernel
theorem dX5_year_72 : decode cX5_year 72 = .ok (.istore 4, 2) := by decide +kernel
theorem dX5_year_74 : decode cX5_year 74 = .ok (.iload 4, 2) := by decide +kernel
theorem dX5_year_76 : decode cX5_year 76 = .ok (.bipush 8, 2) := by decide +kernel
theorem dX5_year_78 : decode cX5_year 78 = .ok (.irem, 1) := by decide +kernel
theorem dX5_year_79 : decode cX5_year 79 = .ok (.istore 6, 2) := by decide +kernel
theorem dX5_year_81 : decode cX5_year 81 = .ok (.aload_n 0, 1) := by decide +kernel
theorem dX5_year_82 : decode cX5_year 82 = .ok (.getfield 52, 3) := by decide +kernel
theorem dX5_year_85 : decode cX5_year 85 = .ok (.iload 6, 2) := by decide +kernel
theorem dX5_year_87 : decode cX5_year 87 = .ok (.invokevirtual 220, 3) := by decide +kernel
theorem dX5_year_90 : decode cX5_year 90 = .ok (.ifCond .eq 15, 3) := by decide +kernel
theorem dX5_year_93 : decode cX5_year 93 = .ok (.aload_n 0, 1) := by decide +kernel
theorem dX5_year_94 : decode cX5_year 94 = .ok (.getfield 52, 3) := by decide +kernel
theorem dX5_year_97 : decode cX5_year 97 = .ok (.iload 6, 2) := by decide +kernel
theorem dX5_year_99 : decode cX5_year 99 = .ok (.invokevirtual 223, 3) := by decide +kernel
theorem dX5_year_102 : decode cX5_year 102 = .ok (.goto 12, 3) := by decide +kernel
theorem dX5_year_105 : decode cX5_year 105 = .ok (.aload_n 0, 1) := by decide +kernel
theorem dX5_year_106 : decode cX5_year 106 = .ok (.getfield 52, 3) := by decide +kernel
theorem dX5_year_109 : decode cX5_year 109 = .ok (.iload 6, 2) := by decide +kernel
theorem dX5_year_111 : decode cX5_year 111 = .ok (.invokevirtual 155, 3) := by decide +kernel
theorem dX5_year_114 : decode cX5_year 114 = .ok (.iinc 5 1, 3) := by decide +kernel
theorem dX5_year_117 : decode cX5_year 117 = .ok (.goto (-62), 3) := by decide +kernel
theorem dX5_year_120 : decode cX5_year 120 = .ok (.aload_n 0, 1) := by decide +kernel
theorem dX5_year_121 : decode cX5_year 121 = .ok (.getfield 52, 3) := by decide +kernel
theorem dX5_year_124 : decode cX5_year 124 = .ok (.iload_n 3, 1) := by decide +kernel
theorem dX5_year_125 : decode cX5_year 125 = .ok (.invokevirtual 226, 3) := by decide +kernel
theorem dX5_year_128 : decode cX5_year 128 = .ok (.ireturn, 1) := by decide +kernel
theorem dX5_image_0 : decode cX5_image 0 = .ok (.iload_n 1, 1) := by decide +kernel
theorem dX5_image_1 : decode cX5_image 1 = .ok (.invokestatic 96, 3) := by decide +kernel
theorem dX5_image_4 : decode cX5_image 4 = .ok (.ifCond .ne 6, 3) := by decide +kernel
theorem dX5_image_7 : decode cX5_image 7 = .ok (.bipush (-2), 2) := by decide +kernel
theorem dX5_image_9 : decode cX5_image 9 = .ok (.ireturn, 1) := by decide +kernel
theorem dX5_image_10 : decode cX5_image 10 = .ok (.iload_n 1, 1) := by decide +kernel
theorem dX5_image_11 : decode cX5_image 11 = .ok (.ifCond .ne 10, 3) := by decide +kernel
theorem dX5_image_14 : decode cX5_image 14 = .ok (.aload_n 0, 1) := by decide +kernel
theorem dX5_image_15 : decode cX5_image 15 = .ok (.getfield 16, 3) := by decide +kernel
theorem dX5_image_18 : decode cX5_image 18 = .ok (.goto 7, 3) := by decide +kernel
theorem dX5_image_21 : decode cX5_image 21 = .ok (.aload_n 0, 1) := by decide +kernel
theorem dX5_image_22 : decode cX5_image 22 = .ok (.getfield 19, 3) := by decide +kernel
theorem dX5_image_25 : decode cX5_image 25 = .ok (.astore_n 2, 1) := by decide +kernel
theorem dX5_image_26 : decode cX5_image 26 = .ok (.aload_n 2, 1) := by decide +kernel
theorem dX5_image_27 : decode cX5_image 27 = .ok (.aload_n 0, 1) := by decide +kernel
theorem dX5_image_28 : decode cX5_image 28 = .ok (.getfield 12, 3) := by decide +kernel
theorem dX5_image_31 : decode cX5_image 31 = .ok (.invokevirtual 229, 3) := by decide +kernel
theorem dX5_image_34 : decode cX5_image 34 = .ok (.aload_n 2, 1) := by decide +kernel
theorem dX5_image_35 : decode cX5_image 35 = .ok (.iconst 1, 1) := by decide +kernel
theorem dX5_image_36 : decode cX5_image 36 = .ok (.putfield 233, 3) := by decide +kernel
theorem dX5_image_39 : decode cX5_image 39 = .ok (.iconst 1, 1) := by decide +kernel
theorem dX5_image_40 : decode cX5_image 40 = .ok (.ireturn, 1) := by decide +kernel
theorem dX5_restore_0 : decode cX5_restore 0 = .ok (.iload_n 1, 1) := by decide +kernel
theorem dX5_restore_1 : decode cX5_restore 1 = .ok (.invokestatic 96, 3) := by decide +kernel
theorem dX5_restore_4 : decode cX5_restore 4 = .ok (.ifCond .ne 6, 3) := by decide +kernel
theorem dX5_restore_7 : decode cX5_restore 7 = .ok (.bipush (-2), 2) := by decide +kernel
theorem dX5_restore_9 : decode cX5_restore 9 = .ok (.ireturn, 1) := by decide +kernel
theorem dX5_restore_10 : decode cX5_restore 10 = .ok (.iload_n 1, 1) := by decide +kernel
theorem dX5_restore_11 : decode cX5_restore 11 = .ok (.ifCond .ne 10, 3) := by decide +kernel
theorem dX5_restore_14 : decode cX5_restore 14 = .ok (.aload_n 0, 1) := by decide +kernel
theorem dX5_restore_15 : decode cX5_restore 15 = .ok (.getfield 16, 3) := by decide +kernel
theorem dX5_restore_18 : decode cX5_restore 18 = .ok (.goto 7, 3) := by decide +kernel
theorem dX5_restore_21 : decode cX5_restore 21 = .ok (.aload_n 0, 1) := by decide +kernel
theorem dX5_restore_22 : decode cX5_restore 22 = .ok (.getfield 19, 3) := by decide +kernel
theorem dX5_restore_25 : decode cX5_restore 25 = .ok (.astore_n 2, 1) := by decide +kernel
theorem dX5_restore_26 : decode cX5_restore 26 = .ok (.aload_n 2, 1) := by decide +kernel
theorem dX5_restore_27 : decode cX5_restore 27 = .ok (.getfield 233, 3) := by decide +kernel
theorem dX5_restore_30 : decode cX5_restore 30 = .ok (.ifCond .ne 6, 3) := by decide +kernel
theorem dX5_restore_33 : decode cX5_restore 33 = .ok (.bipush (-3), 2) := by decide +kernel
theorem dX5_restore_35 : decode cX5_restore 35 = .ok (.ireturn, 1) := by decide +kernel
theorem dX5_restore_36 : decode cX5_restore 36 = .ok (.aload_n 0, 1) := by decide +kernel
theorem dX5_restore_37 : decode cX5_restore 37 = .ok (.getfield 12, 3) := by decide +kernel
theorem dX5_restore_40 : decode cX5_restore 40 = .ok (.aload_n 2, 1) := by decide +kernel
theorem dX5_restore_41 : decode cX5_restore 41 = .ok (.invokevirtual 229, 3) := by decide +kernel
theorem dX5_restore_44 : decode cX5_restore 44 = .ok (.iconst 1, 1) := by decide +kernel
theorem dX5_restore_45 : decode cX5_restore 45 = .ok (.ireturn, 1) := by decide +kernel
theorem dX5_told_0 : decode cX5_told 0 = .ok (.iload_n 1, 1) := by decide +kernel
theorem dX5_told_1 : decode cX5_told 1 = .ok (.tableswitch 63 0 3 #[31, 39, 47, 55], 31) := by decide +kernel
theorem dX5_told_32 : decode cX5_told 32 = .ok (.aload_n 0, 1) := by decide +kernel
theorem dX5_told_33 : decode cX5_told 33 = .ok (.getfield 25, 3) := by decide +kernel
theorem dX5_told_36 : decode cX5_told 36 = .ok (.getfield 89, 3) := by decide +kernel
theorem dX5_told_39 : decode cX5_told 39 = .ok (.ireturn, 1) := by decide +kernel
theorem dX5_told_40 : decode cX5_told 40 = .ok (.aload_n 0, 1) := by decide +kernel
theorem dX5_told_41 : decode cX5_told 41 = .ok (.getfield 12, 3) := by decide +kernel
theorem dX5_told_44 : decode cX5_told 44 = .ok (.getfield 56, 3) := by decide +kernel
theorem dX5_told_47 : decode cX5_told 47 = .ok (.ireturn, 1) := by decide +kernel
theorem dX5_told_48 : decode cX5_told 48 = .ok (.aload_n 0, 1) := by decide +kernel
theorem dX5_told_49 : decode cX5_told 49 = .ok (.getfield 12, 3) := by decide +kernel
theorem dX5_told_52 : decode cX5_told 52 = .ok (.getfield 79, 3) := by decide +kernel
theorem dX5_told_55 : decode cX5_told 55 = .ok (.ireturn, 1) := by decide +kernel
theorem dX5_told_56 : decode cX5_told 56 = .ok (.aload_n 0, 1) := by decide +kernel
theorem dX5_told_57 : decode cX5_told 57 = .ok (.getfield 12, 3) := by decide +kernel
theorem dX5_told_60 : decode cX5_told 60 = .ok (.getfield 185, 3) := by decide +kernel
theorem dX5_told_63 : decode cX5_told 63 = .ok (.ireturn, 1) := by decide +kernel
theorem dX5_told_64 : decode cX5_told 64 = .ok (.aload_n 0, 1) := by decide +kernel
theorem dX5_told_65 : decode cX5_told 65 = .ok (.iload_n 1, 1) := by decide +kernel
theorem dX5_told_66 : decode cX5_told 66 = .ok (.invokevirtual 237, 3) := by decide +kernel
theorem dX5_told_69 : decode cX5_told 69 = .ok (.ireturn, 1) := by decide +kernel
theorem dX5_isGuest_0 : decode cX5_isGuest 0 = .ok (.iload_n 0, 1) := by decide +kernel
theorem dX5_isGuest_1 : decode cX5_isGuest 1 = .ok (.ifCond .lt 13, 3) := by decide +kernel
theorem dX5_isGuest_4 : decode cX5_isGuest 4 = .ok (.iload_n 0, 1) := by decide +kernel
theorem dX5_isGuest_5 : decode cX5_isGuest 5 = .ok (.bipush 8, 2) := by decide +kernel
theorem dX5_isGuest_7 : decode cX5_isGuest 7 = .ok (.if_icmp .ge 7, 3) := by decide +kernel
theorem dX5_isGuest_10 : decode cX5_isGuest 10 = .ok (.iconst 1, 1) := by decide +kernel
theorem dX5_isGuest_11 : decode cX5_isGuest 11 = .ok (.goto 4, 3) := by decide +kernel
theorem dX5_isGuest_14 : decode cX5_isGuest 14 = .ok (.iconst 0, 1) := by decide +kernel
theorem dX5_isGuest_15 : decode cX5_isGuest 15 = .ok (.ireturn, 1) := by decide +kernel
theorem dX5_isBed_0 : decode cX5_isBed 0 = .ok (.iload_n 1, 1) := by decide +kernel
theorem dX5_isBed_1 : decode cX5_isBed 1 = .ok (.ifCond .lt 18, 3) := by decide +kernel
theorem dX5_isBed_4 : decode cX5_isBed 4 = .ok (.iload_n 1, 1) := by decide +kernel
theorem dX5_isBed_5 : decode cX5_isBed 5 = .ok (.aload_n 0, 1) := by decide +kernel
theorem dX5_isBed_6 : decode cX5_isBed 6 = .ok (.getfield 12, 3) := by decide +kernel
theorem dX5_isBed_9 : decode cX5_isBed 9 = .ok (.getfield 56, 3) := by decide +kernel
theorem dX5_isBed_12 : decode cX5_isBed 12 = .ok (.if_icmp .ge 7, 3) := by decide +kernel
theorem dX5_isBed_15 : decode cX5_isBed 15 = .ok (.iconst 1, 1) := by decide +kernel
theorem dX5_isBed_16 : decode cX5_isBed 16 = .ok (.goto 4, 3) := by decide +kernel
theorem dX5_isBed_19 : decode cX5_isBed 19 = .ok (.iconst 0, 1) := by decide +kernel
theorem dX5_isBed_20 : decode cX5_isBed 20 = .ok (.ireturn, 1) := by decide +kernel
theorem dX5_isEither_0 : decode cX5_isEither 0 = .ok (.iload_n 0, 1) := by decide +kernel
theorem dX5_isEither_1 : decode cX5_isEither 1 = .ok (.ifCond .eq 8, 3) := by decide +kernel
theorem dX5_isEither_4 : decode cX5_isEither 4 = .ok (.iload_n 0, 1) := by decide +kernel
theorem dX5_isEither_5 : decode cX5_isEither 5 = .ok (.iconst 1, 1) := by decide +kernel
theorem dX5_isEither_6 : decode cX5_isEither 6 = .ok (.if_icmp .ne 7, 3) := by decide +kernel
theorem dX5_isEither_9 : decode cX5_isEither 9 = .ok (.iconst 1, 1) := by decide +kernel
theorem dX5_isEither_10 : decode cX5_isEither 10 = .ok (.goto 4, 3) := by decide +kernel
theorem dX5_isEither_13 : decode cX5_isEither 13 = .ok (.iconst 0, 1) := by decide +kernel
theorem dX5_isEither_14 : decode cX5_isEither 14 = .ok (.ireturn, 1) := by decide +kernel
theorem dX5_isCountOfEvents_0 : decode cX5_isCountOfEvents 0 = .ok (.iload_n 1, 1) := by decide +kernel
theorem dX5_isCountOfEvents_1 : decode cX5_isCountOfEvents 1 = .ok (.iconst (-1), 1) := by decide +kernel
theorem dX5_isCountOfEvents_2 : decode cX5_isCountOfEvents 2 = .ok (.if_icmp .lt 18, 3) := by decide +kernel
theorem dX5_isCountOfEvents_5 : decode cX5_isCountOfEvents 5 = .ok (.iload_n 1, 1) := by decide +kernel
theorem dX5_isCountOfEvents_6 : decode cX5_isCountOfEvents 6 = .ok (.aload_n 0, 1) := by decide +kernel
theorem dX5_isCountOfEvents_7 : decode cX5_isCountOfEvents 7 = .ok (.getfield 25, 3) := by decide +kernel
theorem dX5_isCountOfEvents_10 : decode cX5_isCountOfEvents 10 = .ok (.getfield 89, 3) := by decide +kernel
theorem dX5_isCountOfEvents_13 : decode cX5_isCountOfEvents 13 = .ok (.if_icmp .gt 7, 3) := by decide +kernel
theorem dX5_isCountOfEvents_16 : decode cX5_isCountOfEvents 16 = .ok (.iconst 1, 1) := by decide +kernel
theorem dX5_isCountOfEvents_17 : decode cX5_isCountOfEvents 17 = .ok (.goto 4, 3) := by decide +kernel
theorem dX5_isCountOfEvents_20 : decode cX5_isCountOfEvents 20 = .ok (.iconst 0, 1) := by decide +kernel
theorem dX5_isCountOfEvents_21 : decode cX5_isCountOfEvents 21 = .ok (.ireturn, 1) := by decide +kernel
theorem dX5_liveThrough_0 : decode cX5_liveThrough 0 = .ok (.iload_n 1, 1) := by decide +kernel
theorem dX5_liveThrough_1 : decode cX5_liveThrough 1 = .ok (.iconst (-1), 1) := by decide +kernel
theorem dX5_liveThrough_2 : decode cX5_liveThrough 2 = .ok (.if_icmp .ne 13, 3) := by decide +kernel
theorem dX5_liveThrough_5 : decode cX5_liveThrough 5 = .ok (.aload_n 0, 1) := by decide +kernel
