theorem dX0_init_0 : decode cX0_init 0 = .ok (.aload_n 0, 1) := by decide +kernel
theorem dX0_init_1 : decode cX0_init 1 = .ok (.invokespecial 3, 3) := by decide +kernel
theorem dX0_init_4 : decode cX0_init 4 = .ok (.aload_n 0, 1) := by decide +kernel
theorem dX0_init_5 : decode cX0_init 5 = .ok (.bipush 48, 2) := by decide +kernel
theorem dX0_init_7 : decode cX0_init 7 = .ok (.newarray .int, 2) := by decide +kernel
theorem dX0_init_9 : decode cX0_init 9 = .ok (.putfield 9, 3) := by decide +kernel
theorem dX0_init_12 : decode cX0_init 12 = .ok (.return_, 1) := by decide +kernel
theorem dX0_isFull_0 : decode cX0_isFull 0 = .ok (.aload_n 0, 1) := by decide +kernel
theorem dX0_isFull_1 : decode cX0_isFull 1 = .ok (.getfield 15, 3) := by decide +kernel
theorem dX0_isFull_4 : decode cX0_isFull 4 = .ok (.bipush 48, 2) := by decide +kernel
theorem dX0_isFull_6 : decode cX0_isFull 6 = .ok (.if_icmp .lt 7, 3) := by decide +kernel
theorem dX0_isFull_9 : decode cX0_isFull 9 = .ok (.iconst 1, 1) := by decide +kernel
theorem dX0_isFull_10 : decode cX0_isFull 10 = .ok (.goto 4, 3) := by decide +kernel
theorem dX0_isFull_13 : decode cX0_isFull 13 = .ok (.iconst 0, 1) := by decide +kernel
theorem dX0_isFull_14 : decode cX0_isFull 14 = .ok (.ireturn, 1) := by decide +kernel
theorem dX0_write_0 : decode cX0_write 0 = .ok (.aload_n 0, 1) := by decide +kernel
theorem dX0_write_1 : decode cX0_write 1 = .ok (.getfield 15, 3) := by decide +kernel
theorem dX0_write_4 : decode cX0_write 4 = .ok (.ifCond .lt 32, 3) := by decide +kernel
theorem dX0_write_7 : decode cX0_write 7 = .ok (.aload_n 0, 1) := by decide +kernel
theorem dX0_write_8 : decode cX0_write 8 = .ok (.getfield 15, 3) := by decide +kernel
theorem dX0_write_11 : decode cX0_write 11 = .ok (.bipush 48, 2) := by decide +kernel
theorem dX0_write_13 : decode cX0_write 13 = .ok (.if_icmp .ge 23, 3) := by decide +kernel
theorem dX0_write_16 : decode cX0_write 16 = .ok (.aload_n 0, 1) := by decide +kernel
theorem dX0_write_17 : decode cX0_write 17 = .ok (.getfield 9, 3) := by decide +kernel
theorem dX0_write_20 : decode cX0_write 20 = .ok (.aload_n 0, 1) := by decide +kernel
theorem dX0_write_21 : decode cX0_write 21 = .ok (.getfield 15, 3) := by decide +kernel
theorem dX0_write_24 : decode cX0_write 24 = .ok (.iload_n 1, 1) := by decide +kernel
theorem dX0_write_25 : decode cX0_write 25 = .ok (.iastore, 1) := by decide +kernel
theorem dX0_write_26 : decode cX0_write 26 = .ok (.aload_n 0, 1) := by decide +kernel
theorem dX0_write_27 : decode cX0_write 27 = .ok (.dup, 1) := by decide +kernel
theorem dX0_write_28 : decode cX0_write 28 = .ok (.getfield 15, 3) := by decide +kernel
theorem dX0_write_31 : decode cX0_write 31 = .ok (.iconst 1, 1) := by decide +kernel
theorem dX0_write_32 : decode cX0_write 32 = .ok (.iadd, 1) := by decide +kernel
theorem dX0_write_33 : decode cX0_write 33 = .ok (.putfield 15, 3) := by decide +kernel
theorem dX0_write_36 : decode cX0_write 36 = .ok (.return_, 1) := by decide +kernel
theorem dX0_signAt_0 : decode cX0_signAt 0 = .ok (.iload_n 1, 1) := by decide +kernel
theorem dX0_signAt_1 : decode cX0_signAt 1 = .ok (.ifCond .lt 26, 3) := by decide +kernel
theorem dX0_signAt_4 : decode cX0_signAt 4 = .ok (.iload_n 1, 1) := by decide +kernel
theorem dX0_signAt_5 : decode cX0_signAt 5 = .ok (.aload_n 0, 1) := by decide +kernel
theorem dX0_signAt_6 : decode cX0_signAt 6 = .ok (.getfield 15, 3) := by decide +kernel
theorem dX0_signAt_9 : decode cX0_signAt 9 = .ok (.if_icmp .ge 18, 3) := by decide +kernel
theorem dX0_signAt_12 : decode cX0_signAt 12 = .ok (.iload_n 1, 1) := by decide +kernel
theorem dX0_signAt_13 : decode cX0_signAt 13 = .ok (.bipush 48, 2) := by decide +kernel
theorem dX0_signAt_15 : decode cX0_signAt 15 = .ok (.if_icmp .ge 12, 3) := by decide +kernel
theorem dX0_signAt_18 : decode cX0_signAt 18 = .ok (.aload_n 0, 1) := by decide +kernel
theorem dX0_signAt_19 : decode cX0_signAt 19 = .ok (.getfield 9, 3) := by decide +kernel
theorem dX0_signAt_22 : decode cX0_signAt 22 = .ok (.iload_n 1, 1) := by decide +kernel
theorem dX0_signAt_23 : decode cX0_signAt 23 = .ok (.iaload, 1) := by decide +kernel
theorem dX0_signAt_24 : decode cX0_signAt 24 = .ok (.goto 4, 3) := by decide +kernel
theorem dX0_signAt_27 : decode cX0_signAt 27 = .ok (.iconst 0, 1) := by decide +kernel
theorem dX0_signAt_28 : decode cX0_signAt 28 = .ok (.ireturn, 1) := by decide +kernel
theorem dX0_firstFault_0 : decode cX0_firstFault 0 = .ok (.iconst 0, 1) := by decide +kernel
theorem dX0_firstFault_1 : decode cX0_firstFault 1 = .ok (.istore_n 1, 1) := by decide +kernel
theorem dX0_firstFault_2 : decode cX0_firstFault 2 = .ok (.iconst 0, 1) := by decide +kernel
theorem dX0_firstFault_3 : decode cX0_firstFault 3 = .ok (.istore_n 2, 1) := by decide +kernel
theorem dX0_firstFault_4 : decode cX0_firstFault 4 = .ok (.iload_n 2, 1) := by decide +kernel
theorem dX0_firstFault_5 : decode cX0_firstFault 5 = .ok (.aload_n 0, 1) := by decide +kernel
theorem dX0_firstFault_6 : decode cX0_firstFault 6 = .ok (.getfield 15, 3) := by decide +kernel
theorem dX0_firstFault_9 : decode cX0_firstFault 9 = .ok (.if_icmp .ge 56, 3) := by decide +kernel
theorem dX0_firstFault_12 : decode cX0_firstFault 12 = .ok (.aload_n 0, 1) := by decide +kernel
theorem dX0_firstFault_13 : decode cX0_firstFault 13 = .ok (.iload_n 2, 1) := by decide +kernel
theorem dX0_firstFault_14 : decode cX0_firstFault 14 = .ok (.invokevirtual 19, 3) := by decide +kernel
theorem dX0_firstFault_17 : decode cX0_firstFault 17 = .ok (.istore_n 3, 1) := by decide +kernel
theorem dX0_firstFault_18 : decode cX0_firstFault 18 = .ok (.iload_n 3, 1) := by decide +kernel
theorem dX0_firstFault_19 : decode cX0_firstFault 19 = .ok (.bipush 63, 2) := by decide +kernel
theorem dX0_firstFault_21 : decode cX0_firstFault 21 = .ok (.if_icmp .ne 9, 3) := by decide +kernel
theorem dX0_firstFault_24 : decode cX0_firstFault 24 = .ok (.iinc 1 1, 3) := by decide +kernel
theorem dX0_firstFault_27 : decode cX0_firstFault 27 = .ok (.goto 25, 3) := by decide +kernel
theorem dX0_firstFault_30 : decode cX0_firstFault 30 = .ok (.iload_n 3, 1) := by decide +kernel
theorem dX0_firstFault_31 : decode cX0_firstFault 31 = .ok (.bipush 46, 2) := by decide +kernel
theorem dX0_firstFault_33 : decode cX0_firstFault 33 = .ok (.if_icmp .eq 19, 3) := by decide +kernel
theorem dX0_firstFault_36 : decode cX0_firstFault 36 = .ok (.iload_n 3, 1) := by decide +kernel
theorem dX0_firstFault_37 : decode cX0_firstFault 37 = .ok (.invokestatic 23, 3) := by decide +kernel
theorem dX0_firstFault_40 : decode cX0_firstFault 40 = .ok (.ifCond .ne 12, 3) := by decide +kernel
theorem dX0_firstFault_43 : decode cX0_firstFault 43 = .ok (.iload_n 3, 1) := by decide +kernel
theorem dX0_firstFault_44 : decode cX0_firstFault 44 = .ok (.invokestatic 27, 3) := by decide +kernel
theorem dX0_firstFault_47 : decode cX0_firstFault 47 = .ok (.ifCond .ne 5, 3) := by decide +kernel
theorem dX0_firstFault_50 : decode cX0_firstFault 50 = .ok (.iload_n 2, 1) := by decide +kernel
theorem dX0_firstFault_51 : decode cX0_firstFault 51 = .ok (.ireturn, 1) := by decide +kernel
theorem dX0_firstFault_52 : decode cX0_firstFault 52 = .ok (.iload_n 1, 1) := by decide +kernel
theorem dX0_firstFault_53 : decode cX0_firstFault 53 = .ok (.iconst 3, 1) := by decide +kernel
theorem dX0_firstFault_54 : decode cX0_firstFault 54 = .ok (.if_icmp .le 5, 3) := by decide +kernel
theorem dX0_firstFault_57 : decode cX0_firstFault 57 = .ok (.iload_n 2, 1) := by decide +kernel
theorem dX0_firstFault_58 : decode cX0_firstFault 58 = .ok (.ireturn, 1) := by decide +kernel
theorem dX0_firstFault_59 : decode cX0_firstFault 59 = .ok (.iinc 2 1, 3) := by decide +kernel
theorem dX0_firstFault_62 : decode cX0_firstFault 62 = .ok (.goto (-58), 3) := by decide +kernel
theorem dX0_firstFault_65 : decode cX0_firstFault 65 = .ok (.bipush (-6), 2) := by decide +kernel
theorem dX0_firstFault_67 : decode cX0_firstFault 67 = .ok (.ireturn, 1) := by decide +kernel
theorem dX0_isUntold_0 : decode cX0_isUntold 0 = .ok (.aload_n 0, 1) := by decide +kernel
theorem dX0_isUntold_1 : decode cX0_isUntold 1 = .ok (.iconst 0, 1) := by decide +kernel
theorem dX0_isUntold_2 : decode cX0_isUntold 2 = .ok (.invokevirtual 30, 3) := by decide +kernel
theorem dX0_isUntold_5 : decode cX0_isUntold 5 = .ok (.iload_n 1, 1) := by decide +kernel
theorem dX0_isUntold_6 : decode cX0_isUntold 6 = .ok (.if_icmp .ge 7, 3) := by decide +kernel
theorem dX0_isUntold_9 : decode cX0_isUntold 9 = .ok (.iconst 1, 1) := by decide +kernel
theorem dX0_isUntold_10 : decode cX0_isUntold 10 = .ok (.goto 4, 3) := by decide +kernel
theorem dX0_isUntold_13 : decode cX0_isUntold 13 = .ok (.iconst 0, 1) := by decide +kernel
theorem dX0_isUntold_14 : decode cX0_isUntold 14 = .ok (.ireturn, 1) := by decide +kernel
theorem dX0_nextUntold_0 : decode cX0_nextUntold 0 = .ok (.iload_n 1, 1) := by decide +kernel
theorem dX0_nextUntold_1 : decode cX0_nextUntold 1 = .ok (.istore_n 2, 1) := by decide +kernel
theorem dX0_nextUntold_2 : decode cX0_nextUntold 2 = .ok (.iload_n 2, 1) := by decide +kernel
theorem dX0_nextUntold_3 : decode cX0_nextUntold 3 = .ok (.aload_n 0, 1) := by decide +kernel
theorem dX0_nextUntold_4 : decode cX0_nextUntold 4 = .ok (.getfield 15, 3) := by decide +kernel
theorem dX0_nextUntold_7 : decode cX0_nextUntold 7 = .ok (.if_icmp .ge 21, 3) := by decide +kernel
theorem dX0_nextUntold_10 : decode cX0_nextUntold 10 = .ok (.aload_n 0, 1) := by decide +kernel
theorem dX0_nextUntold_11 : decode cX0_nextUntold 11 = .ok (.iload_n 2, 1) := by decide +kernel
theorem dX0_nextUntold_12 : decode cX0_nextUntold 12 = .ok (.invokevirtual 19, 3) := by decide +kernel
theorem dX0_nextUntold_15 : decode cX0_nextUntold 15 = .ok (.bipush 63, 2) := by decide +kernel
theorem dX0_nextUntold_17 : decode cX0_nextUntold 17 = .ok (.if_icmp .ne 5, 3) := by decide +kernel
theorem dX0_nextUntold_20 : decode cX0_nextUntold 20 = .ok (.iload_n 2, 1) := by decide +kernel
theorem dX0_nextUntold_21 : decode cX0_nextUntold 21 = .ok (.ireturn, 1) := by decide +kernel
theorem dX0_nextUntold_22 : decode cX0_nextUntold 22 = .ok (.iinc 2 1, 3) := by decide +kernel
theorem dX0_nextUntold_25 : decode cX0_nextUntold 25 = .ok (.goto (-23), 3) := by decide +kernel
theorem dX0_nextUntold_28 : decode cX0_nextUntold 28 = .ok (.aload_n 0, 1) := by decide +kernel
theorem dX0_nextUntold_29 : decode cX0_nextUntold 29 = .ok (.getfield 15, 3) := by decide +kernel
theorem dX0_nextUntold_32 : decode cX0_nextUntold 32 = .ok (.ireturn, 1) := by decide +kernel
theorem dX0_names_0 : decode cX0_names 0 = .ok (.iconst 0, 1) := by decide +kernel
theorem dX0_names_1 : decode cX0_names 1 = .ok (.istore_n 2, 1) := by decide +kernel
theorem dX0_names_2 : decode cX0_names 2 = .ok (.iload_n 2, 1) := by decide +kernel
theorem dX0_names_3 : decode cX0_names 3 = .ok (.aload_n 0, 1) := by decide +kernel
theorem dX0_names_4 : decode cX0_names 4 = .ok (.getfield 15, 3) := by decide +kernel
theorem dX0_names_7 : decode cX0_names 7 = .ok (.if_icmp .ge 33, 3) := by decide +kernel
theorem dX0_names_10 : decode cX0_names 10 = .ok (.aload_n 0, 1) := by decide +kernel
theorem dX0_names_11 : decode cX0_names 11 = .ok (.iload_n 2, 1) := by decide +kernel
theorem dX0_names_12 : decode cX0_names 12 = .ok (.invokevirtual 19, 3) := by decide +kernel
theorem dX0_names_15 : decode cX0_names 15 = .ok (.istore_n 3, 1) := by decide +kernel
theorem dX0_names_16 : decode cX0_names 16 = .ok (.iload_n 3, 1) := by decide +kernel
theorem dX0_names_17 : decode cX0_names 17 = .ok (.bipush 65, 2) := by decide +kernel
theorem dX0_names_19 : decode cX0_names 19 = .ok (.iload_n 1, 1) := by decide +kernel
theorem dX0_names_20 : decode cX0_names 20 = .ok (.iadd, 1) := by decide +kernel
theorem dX0_names_21 : decode cX0_names 21 = .ok (.if_icmp .eq 11, 3) := by decide +kernel
theorem dX0_names_24 : decode cX0_names 24 = .ok (.iload_n 3, 1) := by decide +kernel
theorem dX0_names_25 : decode cX0_names 25 = .ok (.bipush 97, 2) := by decide +kernel
theorem dX0_names_27 : decode cX0_names 27 = .ok (.iload_n 1, 1) := by decide +kernel
theorem dX0_names_28 : decode cX0_names 28 = .ok (.iadd, 1) := by decide +kernel
theorem dX0_names_29 : decode cX0_names 29 = .ok (.if_icmp .ne 5, 3) := by decide +kernel
theorem dX0_names_32 : decode cX0_names 32 = .ok (.iconst 1, 1) := by decide +kernel
theorem dX0_names_33 : decode cX0_names 33 = .ok (.ireturn, 1) := by decide +kernel
theorem dX0_names_34 : decode cX0_names 34 = .ok (.iinc 2 1, 3) := by decide +kernel
theorem dX0_names_37 : decode cX0_names 37 = .ok (.goto (-35), 3) := by decide +kernel
theorem dX0_names_40 : decode cX0_names 40 = .ok (.iconst 0, 1) := by decide +kernel
theorem dX0_names_41 : decode cX0_names 41 = .ok (.ireturn, 1) := by decide +kernel
theorem dX0_isComing_0 : decode cX0_isComing 0 = .ok (.iload_n 0, 1) := by decide +kernel
theorem dX0_isComing_1 : decode cX0_isComing 1 = .ok (.bipush 65, 2) := by decide +kernel
theorem dX0_isComing_3 : decode cX0_isComing 3 = .ok (.if_icmp .lt 13, 3) := by decide +kernel
theorem dX0_isComing_6 : decode cX0_isComing 6 = .ok (.iload_n 0, 1) := by decide +kernel
theorem dX0_isComing_7 : decode cX0_isComing 7 = .ok (.bipush 72, 2) := by decide +kernel
theorem dX0_isComing_9 : decode cX0_isComing 9 = .ok (.if_icmp .gt 7, 3) := by decide +kernel
theorem dX0_isComing_12 : decode cX0_isComing 12 = .ok (.iconst 1, 1) := by decide +kernel
theorem dX0_isComing_13 : decode cX0_isComing 13 = .ok (.goto 4, 3) := by decide +kernel
theorem dX0_isComing_16 : decode cX0_isComing 16 = .ok (.iconst 0, 1) := by decide +kernel
theorem dX0_isComing_17 : decode cX0_isComing 17 = .ok (.ireturn, 1) := by decide +kernel
theorem dX0_isGoing_0 : decode cX0_isGoing 0 = .ok (.iload_n 0, 1) := by decide +kernel
theorem dX0_isGoing_1 : decode cX0_isGoing 1 = .ok (.bipush 97, 2) := by decide +kernel
theorem dX0_isGoing_3 : decode cX0_isGoing 3 = .ok (.if_icmp .lt 13, 3) := by decide +kernel
theorem dX0_isGoing_6 : decode cX0_isGoing 6 = .ok (.iload_n 0, 1) := by decide +kernel
theorem dX0_isGoing_7 : decode cX0_isGoing 7 = .ok (.bipush 104, 2) := by decide +kernel
theorem dX0_isGoing_9 : decode cX0_isGoing 9 = .ok (.if_icmp .gt 7, 3) := by decide +kernel
theorem dX0_isGoing_12 : decode cX0_isGoing 12 = .ok (.iconst 1, 1) := by decide +kernel
theorem dX0_isGoing_13 : decode cX0_isGoing 13 = .ok (.goto 4, 3) := by decide +kernel
theorem dX0_isGoing_16 : decode cX0_isGoing 16 = .ok (.iconst 0, 1) := by decide +kernel
theorem dX0_isGoing_17 : decode cX0_isGoing 17 = .ok (.ireturn, 1) := by decide +kernel
theorem dX1_init_0 : decode cX1_init 0 = .ok (.aload_n 0, 1) := by decide +kernel
theorem dX1_init_1 : decode cX1_init 1 = .ok (.invokespecial 3, 3) := by decide +kernel
theorem dX1_init_4 : decode cX1_init 4 = .ok (.aload_n 0, 1) := by decide +kernel
theorem dX1_init_5 : decode cX1_init 5 = .ok (.iconst 3, 1) := by decide +kernel
theorem dX1_init_6 : decode cX1_init 6 = .ok (.newarray .int, 2) := by decide +kernel
theorem dX1_init_8 : decode cX1_init 8 = .ok (.putfield 9, 3) := by decide +kernel
theorem dX1_init_11 : decode cX1_init 11 = .ok (.aload_n 0, 1) := by decide +kernel
theorem dX1_init_12 : decode cX1_init 12 = .ok (.iconst 3, 1) := by decide +kernel
theorem dX1_init_13 : decode cX1_init 13 = .ok (.newarray .int, 2) := by decide +kernel
theorem dX1_init_15 : decode cX1_init 15 = .ok (.putfield 15, 3) := by decide +kernel
theorem dX1_init_18 : decode cX1_init 18 = .ok (.aload_n 0, 1) := by decide +kernel
theorem dX1_init_19 : decode cX1_init 19 = .ok (.iconst 3, 1) := by decide +kernel
theorem dX1_init_20 : decode cX1_init 20 = .ok (.newarray .int, 2) := by decide +kernel
theorem dX1_init_22 : decode cX1_init 22 = .ok (.putfield 18, 3) := by decide +kernel
theorem dX1_init_25 : decode cX1_init 25 = .ok (.return_, 1) := by decide +kernel
theorem dX1_search_0 : decode cX1_search 0 = .ok (.aload_n 0, 1) := by decide +kernel
theorem dX1_search_1 : decode cX1_search 1 = .ok (.iconst 0, 1) := by decide +kernel
theorem dX1_search_2 : decode cX1_search 2 = .ok (.putfield 21, 3) := by decide +kernel
theorem dX1_search_5 : decode cX1_search 5 = .ok (.aload_n 0, 1) := by decide +kernel
theorem dX1_search_6 : decode cX1_search 6 = .ok (.iconst 0, 1) := by decide +kernel
theorem dX1_search_7 : decode cX1_search 7 = .ok (.putfield 25, 3) := by decide +kernel
theorem dX1_search_10 : decode cX1_search 10 = .ok (.iconst 0, 1) := by decide +kernel
theorem dX1_search_11 : decode cX1_search 11 = .ok (.istore 4, 2) := by decide +kernel
theorem dX1_search_13 : decode cX1_search 13 = .ok (.iload 4, 2) := by decide +kernel
theorem dX1_search_15 : decode cX1_search 15 = .ok (.aload_n 2, 1) := by decide +kernel
theorem dX1_search_16 : decode cX1_search 16 = .ok (.getfield 28, 3) := by decide +kernel
theorem dX1_search_19 : decode cX1_search 19 = .ok (.if_icmp .ge 34, 3) := by decide +kernel
theorem dX1_search_22 : decode cX1_search 22 = .ok (.aload_n 0, 1) := by decide +kernel
theorem dX1_search_23 : decode cX1_search 23 = .ok (.dup, 1) := by decide +kernel
theorem dX1_search_24 : decode cX1_search 24 = .ok (.getfield 25, 3) := by decide +kernel
theorem dX1_search_27 : decode cX1_search 27 = .ok (.aload_n 2, 1) := by decide +kernel
theorem dX1_search_28 : decode cX1_search 28 = .ok (.iload 4, 2) := by decide +kernel
theorem dX1_search_30 : decode cX1_search 30 = .ok (.invokevirtual 33, 3) := by decide +kernel
theorem dX1_search_33 : decode cX1_search 33 = .ok (.bipush 63, 2) := by decide +kernel
theorem dX1_search_35 : decode cX1_search 35 = .ok (.if_icmp .ne 7, 3) := by decide +kernel
theorem dX1_search_38 : decode cX1_search 38 = .ok (.iconst 1, 1) := by decide +kernel
theorem dX1_search_39 : decode cX1_search 39 = .ok (.goto 4, 3) := by decide +kernel
theorem dX1_search_42 : decode cX1_search 42 = .ok (.iconst 0, 1) := by decide +kernel
theorem dX1_search_43 : decode cX1_search 43 = .ok (.iadd, 1) := by decide +kernel
theorem dX1_search_44 : decode cX1_search 44 = .ok (.putfield 25, 3) := by decide +kernel
theorem dX1_search_47 : decode cX1_search 47 = .ok (.iinc 4 1, 3) := by decide +kernel
theorem dX1_search_50 : decode cX1_search 50 = .ok (.goto (-37), 3) := by decide +kernel
theorem dX1_search_53 : decode cX1_search 53 = .ok (.iconst 0, 1) := by decide +kernel
theorem dX1_search_54 : decode cX1_search 54 = .ok (.istore 4, 2) := by decide +kernel
theorem dX1_search_56 : decode cX1_search 56 = .ok (.iload 4, 2) := by decide +kernel
theorem dX1_search_58 : decode cX1_search 58 = .ok (.iconst 3, 1) := by decide +kernel
theorem dX1_search_59 : decode cX1_search 59 = .ok (.if_icmp .ge 17, 3) := by decide +kernel
theorem dX1_search_62 : decode cX1_search 62 = .ok (.aload_n 0, 1) := by decide +kernel
theorem dX1_search_63 : decode cX1_search 63 = .ok (.getfield 18, 3) := by decide +kernel
theorem dX1_search_66 : decode cX1_search 66 = .ok (.iload 4, 2) := by decide +kernel
theorem dX1_search_68 : decode cX1_search 68 = .ok (.iconst 0, 1) := by decide +kernel
theorem dX1_search_69 : decode cX1_search 69 = .ok (.iastore, 1) := by decide +kernel
theorem dX1_search_70 : decode cX1_search 70 = .ok (.iinc 4 1, 3) := by decide +kernel
theorem dX1_search_73 : decode cX1_search 73 = .ok (.goto (-17), 3) := by decide +kernel
theorem dX1_search_76 : decode cX1_search 76 = .ok (.aload_n 1, 1) := by decide +kernel
theorem dX1_search_77 : decode cX1_search 77 = .ok (.aload_n 3, 1) := by decide +kernel
theorem dX1_search_78 : decode cX1_search 78 = .ok (.getfield 37, 3) := by decide +kernel
theorem dX1_search_81 : decode cX1_search 81 = .ok (.invokevirtual 42, 3) := by decide +kernel
theorem dX1_search_84 : decode cX1_search 84 = .ok (.aload_n 0, 1) := by decide +kernel
theorem dX1_search_85 : decode cX1_search 85 = .ok (.aload_n 1, 1) := by decide +kernel
theorem dX1_search_86 : decode cX1_search 86 = .ok (.aload_n 2, 1) := by decide +kernel
theorem dX1_search_87 : decode cX1_search 87 = .ok (.iconst 0, 1) := by decide +kernel
theorem dX1_search_88 : decode cX1_search 88 = .ok (.iconst 0, 1) := by decide +kernel
theorem dX1_search_89 : decode cX1_search 89 = .ok (.invokestatic 48, 3) := by decide +kernel
theorem dX1_search_92 : decode cX1_search 92 = .ok (.return_, 1) := by decide +kernel
theorem dX1_fillFrom_0 : decode cX1_fillFrom 0 = .ok (.aload_n 2, 1) := by decide +kernel
theorem dX1_fillFrom_1 : decode cX1_fillFrom 1 = .ok (.iload_n 3, 1) := by decide +kernel
theorem dX1_fillFrom_2 : decode cX1_fillFrom 2 = .ok (.invokevirtual 52, 3) := by decide +kernel
theorem dX1_fillFrom_5 : decode cX1_fillFrom 5 = .ok (.istore 5, 2) := by decide +kernel
theorem dX1_fillFrom_7 : decode cX1_fillFrom 7 = .ok (.aload_n 1, 1) := by decide +kernel
theorem dX1_fillFrom_8 : decode cX1_fillFrom 8 = .ok (.aload_n 2, 1) := by decide +kernel
theorem dX1_fillFrom_9 : decode cX1_fillFrom 9 = .ok (.iload_n 3, 1) := by decide +kernel
theorem dX1_fillFrom_10 : decode cX1_fillFrom 10 = .ok (.iload 5, 2) := by decide +kernel
theorem dX1_fillFrom_12 : decode cX1_fillFrom 12 = .ok (.invokevirtual 55, 3) := by decide +kernel
theorem dX1_fillFrom_15 : decode cX1_fillFrom 15 = .ok (.bipush (-6), 2) := by decide +kernel
theorem dX1_fillFrom_17 : decode cX1_fillFrom 17 = .ok (.if_icmp .eq 4, 3) := by decide +kernel
theorem dX1_fillFrom_20 : decode cX1_fillFrom 20 = .ok (.return_, 1) := by decide +kernel
theorem dX1_fillFrom_21 : decode cX1_fillFrom 21 = .ok (.iload 5, 2) := by decide +kernel
theorem dX1_fillFrom_23 : decode cX1_fillFrom 23 = .ok (.aload_n 2, 1) := by decide +kernel
theorem dX1_fillFrom_24 : decode cX1_fillFrom 24 = .ok (.getfield 28, 3) := by decide +kernel
theorem dX1_fillFrom_27 : decode cX1_fillFrom 27 = .ok (.if_icmp .lt 9, 3) := by decide +kernel
theorem dX1_fillFrom_30 : decode cX1_fillFrom 30 = .ok (.aload_n 0, 1) := by decide +kernel
theorem dX1_fillFrom_31 : decode cX1_fillFrom 31 = .ok (.aload_n 1, 1) := by decide +kernel
theorem dX1_fillFrom_32 : decode cX1_fillFrom 32 = .ok (.invokevirtual 59, 3) := by decide +kernel
theorem dX1_fillFrom_35 : decode cX1_fillFrom 35 = .ok (.return_, 1) := by decide +kernel
theorem dX1_fillFrom_36 : decode cX1_fillFrom 36 = .ok (.aload_n 1, 1) := by decide +kernel
theorem dX1_fillFrom_37 : decode cX1_fillFrom 37 = .ok (.getfield 63, 3) := by decide +kernel
theorem dX1_fillFrom_40 : decode cX1_fillFrom 40 = .ok (.astore 6, 2) := by decide +kernel
theorem dX1_fillFrom_42 : decode cX1_fillFrom 42 = .ok (.aload 6, 2) := by decide +kernel
theorem dX1_fillFrom_44 : decode cX1_fillFrom 44 = .ok (.ifnull 14, 3) := by decide +kernel
theorem dX1_fillFrom_47 : decode cX1_fillFrom 47 = .ok (.iload 4, 2) := by decide +kernel
theorem dX1_fillFrom_49 : decode cX1_fillFrom 49 = .ok (.ifCond .lt 9, 3) := by decide +kernel
theorem dX1_fillFrom_52 : decode cX1_fillFrom 52 = .ok (.iload 4, 2) := by decide +kernel
theorem dX1_fillFrom_54 : decode cX1_fillFrom 54 = .ok (.iconst 3, 1) := by decide +kernel
theorem dX1_fillFrom_55 : decode cX1_fillFrom 55 = .ok (.if_icmp .lt 4, 3) := by decide +kernel
theorem dX1_fillFrom_58 : decode cX1_fillFrom 58 = .ok (.return_, 1) := by decide +kernel
theorem dX1_fillFrom_59 : decode cX1_fillFrom 59 = .ok (.iconst 0, 1) := by decide +kernel
theorem dX1_fillFrom_60 : decode cX1_fillFrom 60 = .ok (.istore 7, 2) := by decide +kernel
theorem dX1_fillFrom_62 : decode cX1_fillFrom 62 = .ok (.iload 7, 2) := by decide +kernel
theorem dX1_fillFrom_64 : decode cX1_fillFrom 64 = .ok (.bipush 8, 2) := by decide +kernel
theorem dX1_fillFrom_66 : decode cX1_fillFrom 66 = .ok (.if_icmp .ge 55, 3) := by decide +kernel
theorem dX1_fillFrom_69 : decode cX1_fillFrom 69 = .ok (.aload_n 1, 1) := by decide +kernel
theorem dX1_fillFrom_70 : decode cX1_fillFrom 70 = .ok (.iload 7, 2) := by decide +kernel
theorem dX1_fillFrom_72 : decode cX1_fillFrom 72 = .ok (.invokevirtual 67, 3) := by decide +kernel
theorem dX1_fillFrom_75 : decode cX1_fillFrom 75 = .ok (.ifCond .ne 40, 3) := by decide +kernel
theorem dX1_fillFrom_78 : decode cX1_fillFrom 78 = .ok (.aload 6, 2) := by decide +kernel
theorem dX1_fillFrom_80 : decode cX1_fillFrom 80 = .ok (.aload_n 1, 1) := by decide +kernel
theorem dX1_fillFrom_81 : decode cX1_fillFrom 81 = .ok (.invokevirtual 71, 3) := by decide +kernel
theorem dX1_fillFrom_84 : decode cX1_fillFrom 84 = .ok (.aload 6, 2) := by decide +kernel
theorem dX1_fillFrom_86 : decode cX1_fillFrom 86 = .ok (.iload 7, 2) := by decide +kernel
theorem dX1_fillFrom_88 : decode cX1_fillFrom 88 = .ok (.invokevirtual 74, 3) := by decide +kernel
theorem dX1_fillFrom_91 : decode cX1_fillFrom 91 = .ok (.aload_n 0, 1) := by decide +kernel
theorem dX1_fillFrom_92 : decode cX1_fillFrom 92 = .ok (.getfield 9, 3) := by decide +kernel
theorem dX1_fillFrom_95 : decode cX1_fillFrom 95 = .ok (.iload 4, 2) := by decide +kernel
theorem dX1_fillFrom_97 : decode cX1_fillFrom 97 = .ok (.iload 7, 2) := by decide +kernel
theorem dX1_fillFrom_99 : decode cX1_fillFrom 99 = .ok (.iastore, 1) := by decide +kernel
theorem dX1_fillFrom_100 : decode cX1_fillFrom 100 = .ok (.aload_n 0, 1) := by decide +kernel
theorem dX1_fillFrom_101 : decode cX1_fillFrom 101 = .ok (.aload 6, 2) := by decide +kernel
theorem dX1_fillFrom_103 : decode cX1_fillFrom 103 = .ok (.aload_n 2, 1) := by decide +kernel
theorem dX1_fillFrom_104 : decode cX1_fillFrom 104 = .ok (.iload 5, 2) := by decide +kernel
theorem dX1_fillFrom_106 : decode cX1_fillFrom 106 = .ok (.iconst 1, 1) := by decide +kernel
theorem dX1_fillFrom_107 : decode cX1_fillFrom 107 = .ok (.iadd, 1) := by decide +kernel
theorem dX1_fillFrom_108 : decode cX1_fillFrom 108 = .ok (.iload 4, 2) := by decide +kernel
theorem dX1_fillFrom_110 : decode cX1_fillFrom 110 = .ok (.iconst 1, 1) := by decide +kernel
theorem dX1_fillFrom_111 : decode cX1_fillFrom 111 = .ok (.iadd, 1) := by decide +kernel
theorem dX1_fillFrom_112 : decode cX1_fillFrom 112 = .ok (.invokestatic 48, 3) := by decide +kernel
theorem dX1_fillFrom_115 : decode cX1_fillFrom 115 = .ok (.iinc 7 1, 3) := by decide +kernel
theorem dX1_fillFrom_118 : decode cX1_fillFrom 118 = .ok (.goto (-56), 3) := by decide +kernel
theorem dX1_fillFrom_121 : decode cX1_fillFrom 121 = .ok (.return_, 1) := by decide +kernel
theorem dX1_keepIfSeen_0 : decode cX1_keepIfSeen 0 = .ok (.aload_n 1, 1) := by decide +kernel
theorem dX1_keepIfSeen_1 : decode cX1_keepIfSeen 1 = .ok (.getfield 77, 3) := by decide +kernel
theorem dX1_keepIfSeen_4 : decode cX1_keepIfSeen 4 = .ok (.aload_n 1, 1) := by decide +kernel
theorem dX1_keepIfSeen_5 : decode cX1_keepIfSeen 5 = .ok (.invokevirtual 81, 3) := by decide +kernel
theorem dX1_keepIfSeen_8 : decode cX1_keepIfSeen 8 = .ok (.ifCond .ne 4, 3) := by decide +kernel
theorem dX1_keepIfSeen_11 : decode cX1_keepIfSeen 11 = .ok (.return_, 1) := by decide +kernel
theorem dX1_keepIfSeen_12 : decode cX1_keepIfSeen 12 = .ok (.aload_n 0, 1) := by decide +kernel
theorem dX1_keepIfSeen_13 : decode cX1_keepIfSeen 13 = .ok (.getfield 21, 3) := by decide +kernel
theorem dX1_keepIfSeen_16 : decode cX1_keepIfSeen 16 = .ok (.ifCond .ne 17, 3) := by decide +kernel
theorem dX1_keepIfSeen_19 : decode cX1_keepIfSeen 19 = .ok (.aload_n 0, 1) := by decide +kernel
theorem dX1_keepIfSeen_20 : decode cX1_keepIfSeen 20 = .ok (.getfield 9, 3) := by decide +kernel
theorem dX1_keepIfSeen_23 : decode cX1_keepIfSeen 23 = .ok (.iconst 0, 1) := by decide +kernel
theorem dX1_keepIfSeen_24 : decode cX1_keepIfSeen 24 = .ok (.aload_n 0, 1) := by decide +kernel
theorem dX1_keepIfSeen_25 : decode cX1_keepIfSeen 25 = .ok (.getfield 15, 3) := by decide +kernel
theorem dX1_keepIfSeen_28 : decode cX1_keepIfSeen 28 = .ok (.iconst 0, 1) := by decide +kernel
theorem dX1_keepIfSeen_29 : decode cX1_keepIfSeen 29 = .ok (.iconst 3, 1) := by decide +kernel
theorem dX1_keepIfSeen_30 : decode cX1_keepIfSeen 30 = .ok (.invokestatic 85, 3) := by decide +kernel
theorem dX1_keepIfSeen_33 : decode cX1_keepIfSeen 33 = .ok (.aload_n 0, 1) := by decide +kernel
theorem dX1_keepIfSeen_34 : decode cX1_keepIfSeen 34 = .ok (.dup, 1) := by decide +kernel
theorem dX1_keepIfSeen_35 : decode cX1_keepIfSeen 35 = .ok (.getfield 21, 3) := by decide +kernel
theorem dX1_keepIfSeen_38 : decode cX1_keepIfSeen 38 = .ok (.iconst 1, 1) := by decide +kernel
theorem dX1_keepIfSeen_39 : decode cX1_keepIfSeen 39 = .ok (.iadd, 1) := by decide +kernel
theorem dX1_keepIfSeen_40 : decode cX1_keepIfSeen 40 = .ok (.putfield 21, 3) := by decide +kernel
theorem dX1_keepIfSeen_43 : decode cX1_keepIfSeen 43 = .ok (.iconst 0, 1) := by decide +kernel
theorem dX1_keepIfSeen_44 : decode cX1_keepIfSeen 44 = .ok (.istore_n 2, 1) := by decide +kernel
theorem dX1_keepIfSeen_45 : decode cX1_keepIfSeen 45 = .ok (.iload_n 2, 1) := by decide +kernel
theorem dX1_keepIfSeen_46 : decode cX1_keepIfSeen 46 = .ok (.iconst 3, 1) := by decide +kernel
theorem dX1_keepIfSeen_47 : decode cX1_keepIfSeen 47 = .ok (.if_icmp .ge 34, 3) := by decide +kernel
theorem dX1_keepIfSeen_50 : decode cX1_keepIfSeen 50 = .ok (.iload_n 2, 1) := by decide +kernel
theorem dX1_keepIfSeen_51 : decode cX1_keepIfSeen 51 = .ok (.aload_n 0, 1) := by decide +kernel
theorem dX1_keepIfSeen_52 : decode cX1_keepIfSeen 52 = .ok (.getfield 25, 3) := by decide +kernel
theorem dX1_keepIfSeen_55 : decode cX1_keepIfSeen 55 = .ok (.if_icmp .ge 26, 3) := by decide +kernel
theorem dX1_keepIfSeen_58 : decode cX1_keepIfSeen 58 = .ok (.aload_n 0, 1) := by decide +kernel
theorem dX1_keepIfSeen_59 : decode cX1_keepIfSeen 59 = .ok (.getfield 18, 3) := by decide +kernel
theorem dX1_keepIfSeen_62 : decode cX1_keepIfSeen 62 = .ok (.iload_n 2, 1) := by decide +kernel
theorem dX1_keepIfSeen_63 : decode cX1_keepIfSeen 63 = .ok (.dup2, 1) := by decide +kernel
theorem dX1_keepIfSeen_64 : decode cX1_keepIfSeen 64 = .ok (.iaload, 1) := by decide +kernel
theorem dX1_keepIfSeen_65 : decode cX1_keepIfSeen 65 = .ok (.iconst 1, 1) := by decide +kernel
theorem dX1_keepIfSeen_66 : decode cX1_keepIfSeen 66 = .ok (.aload_n 0, 1) := by decide +kernel
theorem dX1_keepIfSeen_67 : decode cX1_keepIfSeen 67 = .ok (.getfield 9, 3) := by decide +kernel
theorem dX1_keepIfSeen_70 : decode cX1_keepIfSeen 70 = .ok (.iload_n 2, 1) := by decide +kernel
theorem dX1_keepIfSeen_71 : decode cX1_keepIfSeen 71 = .ok (.iaload, 1) := by decide +kernel
theorem dX1_keepIfSeen_72 : decode cX1_keepIfSeen 72 = .ok (.ishl, 1) := by decide +kernel
theorem dX1_keepIfSeen_73 : decode cX1_keepIfSeen 73 = .ok (.ior, 1) := by decide +kernel
theorem dX1_keepIfSeen_74 : decode cX1_keepIfSeen 74 = .ok (.iastore, 1) := by decide +kernel
theorem dX1_keepIfSeen_75 : decode cX1_keepIfSeen 75 = .ok (.iinc 2 1, 3) := by decide +kernel
theorem dX1_keepIfSeen_78 : decode cX1_keepIfSeen 78 = .ok (.goto (-33), 3) := by decide +kernel
theorem dX1_keepIfSeen_81 : decode cX1_keepIfSeen 81 = .ok (.return_, 1) := by decide +kernel
theorem dX1_isUntold_0 : decode cX1_isUntold 0 = .ok (.iload_n 1, 1) := by decide +kernel
theorem dX1_isUntold_1 : decode cX1_isUntold 1 = .ok (.ifCond .lt 20, 3) := by decide +kernel
theorem dX1_isUntold_4 : decode cX1_isUntold 4 = .ok (.iload_n 1, 1) := by decide +kernel
theorem dX1_isUntold_5 : decode cX1_isUntold 5 = .ok (.aload_n 0, 1) := by decide +kernel
theorem dX1_isUntold_6 : decode cX1_isUntold 6 = .ok (.getfield 25, 3) := by decide +kernel
theorem dX1_isUntold_9 : decode cX1_isUntold 9 = .ok (.if_icmp .ge 12, 3) := by decide +kernel
theorem dX1_isUntold_12 : decode cX1_isUntold 12 = .ok (.iload_n 1, 1) := by decide +kernel
theorem dX1_isUntold_13 : decode cX1_isUntold 13 = .ok (.iconst 3, 1) := by decide +kernel
theorem dX1_isUntold_14 : decode cX1_isUntold 14 = .ok (.if_icmp .ge 7, 3) := by decide +kernel
theorem dX1_isUntold_17 : decode cX1_isUntold 17 = .ok (.iconst 1, 1) := by decide +kernel
theorem dX1_isUntold_18 : decode cX1_isUntold 18 = .ok (.goto 4, 3) := by decide +kernel
theorem dX1_isUntold_21 : decode cX1_isUntold 21 = .ok (.iconst 0, 1) := by decide +kernel
theorem dX1_isUntold_22 : decode cX1_isUntold 22 = .ok (.ireturn, 1) := by decide +kernel
theorem dX1_firstAt_0 : decode cX1_firstAt 0 = .ok (.aload_n 0, 1) := by decide +kernel
theorem dX1_firstAt_1 : decode cX1_firstAt 1 = .ok (.iload_n 1, 1) := by decide +kernel
theorem dX1_firstAt_2 : decode cX1_firstAt 2 = .ok (.invokevirtual 91, 3) := by decide +kernel
theorem dX1_firstAt_5 : decode cX1_firstAt 5 = .ok (.ifCond .eq 19, 3) := by decide +kernel
theorem dX1_firstAt_8 : decode cX1_firstAt 8 = .ok (.aload_n 0, 1) := by decide +kernel
theorem dX1_firstAt_9 : decode cX1_firstAt 9 = .ok (.getfield 21, 3) := by decide +kernel
theorem dX1_firstAt_12 : decode cX1_firstAt 12 = .ok (.ifCond .le 12, 3) := by decide +kernel
theorem dX1_firstAt_15 : decode cX1_firstAt 15 = .ok (.aload_n 0, 1) := by decide +kernel
theorem dX1_firstAt_16 : decode cX1_firstAt 16 = .ok (.getfield 15, 3) := by decide +kernel
theorem dX1_firstAt_19 : decode cX1_firstAt 19 = .ok (.iload_n 1, 1) := by decide +kernel
theorem dX1_firstAt_20 : decode cX1_firstAt 20 = .ok (.iaload, 1) := by decide +kernel
theorem dX1_firstAt_21 : decode cX1_firstAt 21 = .ok (.goto 5, 3) := by decide +kernel
theorem dX1_firstAt_24 : decode cX1_firstAt 24 = .ok (.bipush (-6), 2) := by decide +kernel
theorem dX1_firstAt_26 : decode cX1_firstAt 26 = .ok (.ireturn, 1) := by decide +kernel
theorem dX1_suspectsAt_0 : decode cX1_suspectsAt 0 = .ok (.aload_n 0, 1) := by decide +kernel
theorem dX1_suspectsAt_1 : decode cX1_suspectsAt 1 = .ok (.iload_n 1, 1) := by decide +kernel
theorem dX1_suspectsAt_2 : decode cX1_suspectsAt 2 = .ok (.invokevirtual 91, 3) := by decide +kernel
theorem dX1_suspectsAt_5 : decode cX1_suspectsAt 5 = .ok (.ifCond .eq 12, 3) := by decide +kernel
theorem dX1_suspectsAt_8 : decode cX1_suspectsAt 8 = .ok (.aload_n 0, 1) := by decide +kernel
theorem dX1_suspectsAt_9 : decode cX1_suspectsAt 9 = .ok (.getfield 18, 3) := by decide +kernel
theorem dX1_suspectsAt_12 : decode cX1_suspectsAt 12 = .ok (.iload_n 1, 1) := by decide +kernel
theorem dX1_suspectsAt_13 : decode cX1_suspectsAt 13 = .ok (.iaload, 1) := by decide +kernel
theorem dX1_suspectsAt_14 : decode cX1_suspectsAt 14 = .ok (.goto 5, 3) := by decide +kernel
theorem dX1_suspectsAt_17 : decode cX1_suspectsAt 17 = .ok (.bipush (-6), 2) := by decide +kernel
theorem dX1_suspectsAt_19 : decode cX1_suspectsAt 19 = .ok (.ireturn, 1) := by decide +kernel
theorem dX2_init_0 : decode cX2_init 0 = .ok (.aload_n 0, 1) := by decide +kernel
theorem dX2_init_1 : decode cX2_init 1 = .ok (.invokespecial 3, 3) := by decide +kernel
theorem dX2_init_4 : decode cX2_init 4 = .ok (.aload_n 0, 1) := by decide +kernel
theorem dX2_init_5 : decode cX2_init 5 = .ok (.iconst 4, 1) := by decide +kernel
theorem dX2_init_6 : decode cX2_init 6 = .ok (.putfield 9, 3) := by decide +kernel
theorem dX2_init_9 : decode cX2_init 9 = .ok (.aload_n 0, 1) := by decide +kernel
theorem dX2_init_10 : decode cX2_init 10 = .ok (.bipush 64, 2) := by decide +kernel
theorem dX2_init_12 : decode cX2_init 12 = .ok (.newarray .int, 2) := by decide +kernel
theorem dX2_init_14 : decode cX2_init 14 = .ok (.putfield 15, 3) := by decide +kernel
theorem dX2_init_17 : decode cX2_init 17 = .ok (.aload_n 0, 1) := by decide +kernel
theorem dX2_init_18 : decode cX2_init 18 = .ok (.bipush 6, 2) := by decide +kernel
theorem dX2_init_20 : decode cX2_init 20 = .ok (.newarray .int, 2) := by decide +kernel
theorem dX2_init_22 : decode cX2_init 22 = .ok (.putfield 19, 3) := by decide +kernel
theorem dX2_init_25 : decode cX2_init 25 = .ok (.aload_n 0, 1) := by decide +kernel
theorem dX2_init_26 : decode cX2_init 26 = .ok (.bipush 6, 2) := by decide +kernel
theorem dX2_init_28 : decode cX2_init 28 = .ok (.newarray .int, 2) := by decide +kernel
theorem dX2_init_30 : decode cX2_init 30 = .ok (.putfield 22, 3) := by decide +kernel
theorem dX2_init_33 : decode cX2_init 33 = .ok (.return_, 1) := by decide +kernel
theorem dX2_furnish_0 : decode cX2_furnish 0 = .ok (.aload_n 0, 1) := by decide +kernel
theorem dX2_furnish_1 : decode cX2_furnish 1 = .ok (.iload_n 1, 1) := by decide +kernel
theorem dX2_furnish_2 : decode cX2_furnish 2 = .ok (.putfield 9, 3) := by decide +kernel
theorem dX2_furnish_5 : decode cX2_furnish 5 = .ok (.aload_n 0, 1) := by decide +kernel
theorem dX2_furnish_6 : decode cX2_furnish 6 = .ok (.iconst 0, 1) := by decide +kernel
theorem dX2_furnish_7 : decode cX2_furnish 7 = .ok (.putfield 25, 3) := by decide +kernel
theorem dX2_furnish_10 : decode cX2_furnish 10 = .ok (.iconst 0, 1) := by decide +kernel
theorem dX2_furnish_11 : decode cX2_furnish 11 = .ok (.istore_n 2, 1) := by decide +kernel
theorem dX2_furnish_12 : decode cX2_furnish 12 = .ok (.iload_n 2, 1) := by decide +kernel
theorem dX2_furnish_13 : decode cX2_furnish 13 = .ok (.aload_n 0, 1) := by decide +kernel
theorem dX2_furnish_14 : decode cX2_furnish 14 = .ok (.getfield 15, 3) := by decide +kernel
theorem dX2_furnish_17 : decode cX2_furnish 17 = .ok (.arraylength, 1) := by decide +kernel
theorem dX2_furnish_18 : decode cX2_furnish 18 = .ok (.if_icmp .ge 16, 3) := by decide +kernel
theorem dX2_furnish_21 : decode cX2_furnish 21 = .ok (.aload_n 0, 1) := by decide +kernel
theorem dX2_furnish_22 : decode cX2_furnish 22 = .ok (.getfield 15, 3) := by decide +kernel
theorem dX2_furnish_25 : decode cX2_furnish 25 = .ok (.iload_n 2, 1) := by decide +kernel
theorem dX2_furnish_26 : decode cX2_furnish 26 = .ok (.iconst 0, 1) := by decide +kernel
theorem dX2_furnish_27 : decode cX2_furnish 27 = .ok (.iastore, 1) := by decide +kernel
theorem dX2_furnish_28 : decode cX2_furnish 28 = .ok (.iinc 2 1, 3) := by decide +kernel
theorem dX2_furnish_31 : decode cX2_furnish 31 = .ok (.goto (-19), 3) := by decide +kernel
theorem dX2_furnish_34 : decode cX2_furnish 34 = .ok (.return_, 1) := by decide +kernel
theorem dX2_worthOf_0 : decode cX2_worthOf 0 = .ok (.iload_n 1, 1) := by decide +kernel
theorem dX2_worthOf_1 : decode cX2_worthOf 1 = .ok (.ifCond .lt 19, 3) := by decide +kernel
theorem dX2_worthOf_4 : decode cX2_worthOf 4 = .ok (.iload_n 1, 1) := by decide +kernel
theorem dX2_worthOf_5 : decode cX2_worthOf 5 = .ok (.bipush 8, 2) := by decide +kernel
theorem dX2_worthOf_7 : decode cX2_worthOf 7 = .ok (.if_icmp .ge 13, 3) := by decide +kernel
theorem dX2_worthOf_10 : decode cX2_worthOf 10 = .ok (.iload_n 2, 1) := by decide +kernel
theorem dX2_worthOf_11 : decode cX2_worthOf 11 = .ok (.ifCond .lt 9, 3) := by decide +kernel
theorem dX2_worthOf_14 : decode cX2_worthOf 14 = .ok (.iload_n 2, 1) := by decide +kernel
theorem dX2_worthOf_15 : decode cX2_worthOf 15 = .ok (.bipush 8, 2) := by decide +kernel
theorem dX2_worthOf_17 : decode cX2_worthOf 17 = .ok (.if_icmp .lt 5, 3) := by decide +kernel
theorem dX2_worthOf_20 : decode cX2_worthOf 20 = .ok (.iconst 0, 1) := by decide +kernel
theorem dX2_worthOf_21 : decode cX2_worthOf 21 = .ok (.ireturn, 1) := by decide +kernel
theorem dX2_worthOf_22 : decode cX2_worthOf 22 = .ok (.aload_n 0, 1) := by decide +kernel
theorem dX2_worthOf_23 : decode cX2_worthOf 23 = .ok (.getfield 15, 3) := by decide +kernel
theorem dX2_worthOf_26 : decode cX2_worthOf 26 = .ok (.iload_n 1, 1) := by decide +kernel
theorem dX2_worthOf_27 : decode cX2_worthOf 27 = .ok (.bipush 8, 2) := by decide +kernel
theorem dX2_worthOf_29 : decode cX2_worthOf 29 = .ok (.imul, 1) := by decide +kernel
theorem dX2_worthOf_30 : decode cX2_worthOf 30 = .ok (.iload_n 2, 1) := by decide +kernel
theorem dX2_worthOf_31 : decode cX2_worthOf 31 = .ok (.iadd, 1) := by decide +kernel
theorem dX2_worthOf_32 : decode cX2_worthOf 32 = .ok (.iaload, 1) := by decide +kernel
theorem dX2_worthOf_33 : decode cX2_worthOf 33 = .ok (.ireturn, 1) := by decide +kernel
theorem dX2_setWorth_0 : decode cX2_setWorth 0 = .ok (.iload_n 1, 1) := by decide +kernel
theorem dX2_setWorth_1 : decode cX2_setWorth 1 = .ok (.invokestatic 28, 3) := by decide +kernel
theorem dX2_setWorth_4 : decode cX2_setWorth 4 = .ok (.ifCond .eq 25, 3) := by decide +kernel
theorem dX2_setWorth_7 : decode cX2_setWorth 7 = .ok (.iload_n 2, 1) := by decide +kernel
theorem dX2_setWorth_8 : decode cX2_setWorth 8 = .ok (.ifCond .lt 21, 3) := by decide +kernel
theorem dX2_setWorth_11 : decode cX2_setWorth 11 = .ok (.iload_n 2, 1) := by decide +kernel
theorem dX2_setWorth_12 : decode cX2_setWorth 12 = .ok (.bipush 8, 2) := by decide +kernel
theorem dX2_setWorth_14 : decode cX2_setWorth 14 = .ok (.if_icmp .ge 15, 3) := by decide +kernel
theorem dX2_setWorth_17 : decode cX2_setWorth 17 = .ok (.aload_n 0, 1) := by decide +kernel
theorem dX2_setWorth_18 : decode cX2_setWorth 18 = .ok (.getfield 15, 3) := by decide +kernel
theorem dX2_setWorth_21 : decode cX2_setWorth 21 = .ok (.iload_n 1, 1) := by decide +kernel
theorem dX2_setWorth_22 : decode cX2_setWorth 22 = .ok (.bipush 8, 2) := by decide +kernel
theorem dX2_setWorth_24 : decode cX2_setWorth 24 = .ok (.imul, 1) := by decide +kernel
theorem dX2_setWorth_25 : decode cX2_setWorth 25 = .ok (.iload_n 2, 1) := by decide +kernel
theorem dX2_setWorth_26 : decode cX2_setWorth 26 = .ok (.iadd, 1) := by decide +kernel
theorem dX2_setWorth_27 : decode cX2_setWorth 27 = .ok (.iload_n 3, 1) := by decide +kernel
theorem dX2_setWorth_28 : decode cX2_setWorth 28 = .ok (.iastore, 1) := by decide +kernel
theorem dX2_setWorth_29 : decode cX2_setWorth 29 = .ok (.return_, 1) := by decide +kernel
theorem dX2_addSight_0 : decode cX2_addSight 0 = .ok (.aload_n 0, 1) := by decide +kernel
theorem dX2_addSight_1 : decode cX2_addSight 1 = .ok (.getfield 25, 3) := by decide +kernel
theorem dX2_addSight_4 : decode cX2_addSight 4 = .ok (.ifCond .lt 42, 3) := by decide +kernel
theorem dX2_addSight_7 : decode cX2_addSight 7 = .ok (.aload_n 0, 1) := by decide +kernel
theorem dX2_addSight_8 : decode cX2_addSight 8 = .ok (.getfield 25, 3) := by decide +kernel
theorem dX2_addSight_11 : decode cX2_addSight 11 = .ok (.bipush 6, 2) := by decide +kernel
theorem dX2_addSight_13 : decode cX2_addSight 13 = .ok (.if_icmp .ge 33, 3) := by decide +kernel
theorem dX2_addSight_16 : decode cX2_addSight 16 = .ok (.aload_n 0, 1) := by decide +kernel
theorem dX2_addSight_17 : decode cX2_addSight 17 = .ok (.getfield 19, 3) := by decide +kernel
theorem dX2_addSight_20 : decode cX2_addSight 20 = .ok (.aload_n 0, 1) := by decide +kernel
theorem dX2_addSight_21 : decode cX2_addSight 21 = .ok (.getfield 25, 3) := by decide +kernel
theorem dX2_addSight_24 : decode cX2_addSight 24 = .ok (.iload_n 1, 1) := by decide +kernel
theorem dX2_addSight_25 : decode cX2_addSight 25 = .ok (.iastore, 1) := by decide +kernel
theorem dX2_addSight_26 : decode cX2_addSight 26 = .ok (.aload_n 0, 1) := by decide +kernel
theorem dX2_addSight_27 : decode cX2_addSight 27 = .ok (.getfield 22, 3) := by decide +kernel
theorem dX2_addSight_30 : decode cX2_addSight 30 = .ok (.aload_n 0, 1) := by decide +kernel
theorem dX2_addSight_31 : decode cX2_addSight 31 = .ok (.getfield 25, 3) := by decide +kernel
theorem dX2_addSight_34 : decode cX2_addSight 34 = .ok (.iload_n 2, 1) := by decide +kernel
theorem dX2_addSight_35 : decode cX2_addSight 35 = .ok (.iastore, 1) := by decide +kernel
theorem dX2_addSight_36 : decode cX2_addSight 36 = .ok (.aload_n 0, 1) := by decide +kernel
theorem dX2_addSight_37 : decode cX2_addSight 37 = .ok (.dup, 1) := by decide +kernel
theorem dX2_addSight_38 : decode cX2_addSight 38 = .ok (.getfield 25, 3) := by decide +kernel
theorem dX2_addSight_41 : decode cX2_addSight 41 = .ok (.iconst 1, 1) := by decide +kernel
theorem dX2_addSight_42 : decode cX2_addSight 42 = .ok (.iadd, 1) := by decide +kernel
theorem dX2_addSight_43 : decode cX2_addSight 43 = .ok (.putfield 25, 3) := by decide +kernel
theorem dX2_addSight_46 : decode cX2_addSight 46 = .ok (.return_, 1) := by decide +kernel
theorem dX2_allSightsHold_0 : decode cX2_allSightsHold 0 = .ok (.iconst 0, 1) := by decide +kernel
theorem dX2_allSightsHold_1 : decode cX2_allSightsHold 1 = .ok (.istore_n 2, 1) := by decide +kernel
theorem dX2_allSightsHold_2 : decode cX2_allSightsHold 2 = .ok (.iload_n 2, 1) := by decide +kernel
theorem dX2_allSightsHold_3 : decode cX2_allSightsHold 3 = .ok (.bipush 6, 2) := by decide +kernel
theorem dX2_allSightsHold_5 : decode cX2_allSightsHold 5 = .ok (.if_icmp .ge 38, 3) := by decide +kernel
theorem dX2_allSightsHold_8 : decode cX2_allSightsHold 8 = .ok (.iload_n 2, 1) := by decide +kernel
theorem dX2_allSightsHold_9 : decode cX2_allSightsHold 9 = .ok (.aload_n 0, 1) := by decide +kernel
theorem dX2_allSightsHold_10 : decode cX2_allSightsHold 10 = .ok (.getfield 25, 3) := by decide +kernel
theorem dX2_allSightsHold_13 : decode cX2_allSightsHold 13 = .ok (.if_icmp .ge 30, 3) := by decide +kernel
theorem dX2_allSightsHold_16 : decode cX2_allSightsHold 16 = .ok (.aload_n 1, 1) := by decide +kernel
theorem dX2_allSightsHold_17 : decode cX2_allSightsHold 17 = .ok (.aload_n 0, 1) := by decide +kernel
theorem dX2_allSightsHold_18 : decode cX2_allSightsHold 18 = .ok (.getfield 22, 3) := by decide +kernel
theorem dX2_allSightsHold_21 : decode cX2_allSightsHold 21 = .ok (.iload_n 2, 1) := by decide +kernel
theorem dX2_allSightsHold_22 : decode cX2_allSightsHold 22 = .ok (.iaload, 1) := by decide +kernel
theorem dX2_allSightsHold_23 : decode cX2_allSightsHold 23 = .ok (.invokevirtual 32, 3) := by decide +kernel
theorem dX2_allSightsHold_26 : decode cX2_allSightsHold 26 = .ok (.aload_n 0, 1) := by decide +kernel
theorem dX2_allSightsHold_27 : decode cX2_allSightsHold 27 = .ok (.getfield 19, 3) := by decide +kernel
theorem dX2_allSightsHold_30 : decode cX2_allSightsHold 30 = .ok (.iload_n 2, 1) := by decide +kernel
theorem dX2_allSightsHold_31 : decode cX2_allSightsHold 31 = .ok (.iaload, 1) := by decide +kernel
theorem dX2_allSightsHold_32 : decode cX2_allSightsHold 32 = .ok (.if_icmp .eq 5, 3) := by decide +kernel
theorem dX2_allSightsHold_35 : decode cX2_allSightsHold 35 = .ok (.iconst 0, 1) := by decide +kernel
theorem dX2_allSightsHold_36 : decode cX2_allSightsHold 36 = .ok (.ireturn, 1) := by decide +kernel
theorem dX2_allSightsHold_37 : decode cX2_allSightsHold 37 = .ok (.iinc 2 1, 3) := by decide +kernel
theorem dX2_allSightsHold_40 : decode cX2_allSightsHold 40 = .ok (.goto (-38), 3) := by decide +kernel
theorem dX2_allSightsHold_43 : decode cX2_allSightsHold 43 = .ok (.iconst 1, 1) := by decide +kernel
theorem dX2_allSightsHold_44 : decode cX2_allSightsHold 44 = .ok (.ireturn, 1) := by decide +kernel
theorem dX2_copy_0 : decode cX2_copy 0 = .ok (.aload_n 0, 1) := by decide +kernel
theorem dX2_copy_1 : decode cX2_copy 1 = .ok (.aload_n 1, 1) := by decide +kernel
theorem dX2_copy_2 : decode cX2_copy 2 = .ok (.getfield 9, 3) := by decide +kernel
theorem dX2_copy_5 : decode cX2_copy 5 = .ok (.putfield 9, 3) := by decide +kernel
theorem dX2_copy_8 : decode cX2_copy 8 = .ok (.aload_n 0, 1) := by decide +kernel
theorem dX2_copy_9 : decode cX2_copy 9 = .ok (.aload_n 1, 1) := by decide +kernel
theorem dX2_copy_10 : decode cX2_copy 10 = .ok (.getfield 38, 3) := by decide +kernel
theorem dX2_copy_13 : decode cX2_copy 13 = .ok (.putfield 38, 3) := by decide +kernel
theorem dX2_copy_16 : decode cX2_copy 16 = .ok (.aload_n 0, 1) := by decide +kernel
theorem dX2_copy_17 : decode cX2_copy 17 = .ok (.aload_n 1, 1) := by decide +kernel
theorem dX2_copy_18 : decode cX2_copy 18 = .ok (.getfield 25, 3) := by decide +kernel
theorem dX2_copy_21 : decode cX2_copy 21 = .ok (.putfield 25, 3) := by decide +kernel
theorem dX2_copy_24 : decode cX2_copy 24 = .ok (.aload_n 1, 1) := by decide +kernel
theorem dX2_copy_25 : decode cX2_copy 25 = .ok (.getfield 15, 3) := by decide +kernel
theorem dX2_copy_28 : decode cX2_copy 28 = .ok (.iconst 0, 1) := by decide +kernel
theorem dX2_copy_29 : decode cX2_copy 29 = .ok (.aload_n 0, 1) := by decide +kernel
theorem dX2_copy_30 : decode cX2_copy 30 = .ok (.getfield 15, 3) := by decide +kernel
theorem dX2_copy_33 : decode cX2_copy 33 = .ok (.iconst 0, 1) := by decide +kernel
theorem dX2_copy_34 : decode cX2_copy 34 = .ok (.aload_n 0, 1) := by decide +kernel
theorem dX2_copy_35 : decode cX2_copy 35 = .ok (.getfield 15, 3) := by decide +kernel
theorem dX2_copy_38 : decode cX2_copy 38 = .ok (.arraylength, 1) := by decide +kernel
theorem dX2_copy_39 : decode cX2_copy 39 = .ok (.invokestatic 41, 3) := by decide +kernel
theorem dX2_copy_42 : decode cX2_copy 42 = .ok (.aload_n 1, 1) := by decide +kernel
theorem dX2_copy_43 : decode cX2_copy 43 = .ok (.getfield 19, 3) := by decide +kernel
theorem dX2_copy_46 : decode cX2_copy 46 = .ok (.iconst 0, 1) := by decide +kernel
theorem dX2_copy_47 : decode cX2_copy 47 = .ok (.aload_n 0, 1) := by decide +kernel
theorem dX2_copy_48 : decode cX2_copy 48 = .ok (.getfield 19, 3) := by decide +kernel
theorem dX2_copy_51 : decode cX2_copy 51 = .ok (.iconst 0, 1) := by decide +kernel
theorem dX2_copy_52 : decode cX2_copy 52 = .ok (.bipush 6, 2) := by decide +kernel
theorem dX2_copy_54 : decode cX2_copy 54 = .ok (.invokestatic 41, 3) := by decide +kernel
theorem dX2_copy_57 : decode cX2_copy 57 = .ok (.aload_n 1, 1) := by decide +kernel
theorem dX2_copy_58 : decode cX2_copy 58 = .ok (.getfield 22, 3) := by decide +kernel
theorem dX2_copy_61 : decode cX2_copy 61 = .ok (.iconst 0, 1) := by decide +kernel
theorem dX2_copy_62 : decode cX2_copy 62 = .ok (.aload_n 0, 1) := by decide +kernel
theorem dX2_copy_63 : decode cX2_copy 63 = .ok (.getfield 22, 3) := by decide +kernel
theorem dX2_copy_66 : decode cX2_copy 66 = .ok (.iconst 0, 1) := by decide +kernel
theorem dX2_copy_67 : decode cX2_copy 67 = .ok (.bipush 6, 2) := by decide +kernel
theorem dX2_copy_69 : decode cX2_copy 69 = .ok (.invokestatic 41, 3) := by decide +kernel
theorem dX2_copy_72 : decode cX2_copy 72 = .ok (.return_, 1) := by decide +kernel
theorem dX3_init_0 : decode cX3_init 0 = .ok (.aload_n 0, 1) := by decide +kernel
theorem dX3_init_1 : decode cX3_init 1 = .ok (.invokespecial 3, 3) := by decide +kernel
theorem dX3_init_4 : decode cX3_init 4 = .ok (.aload_n 0, 1) := by decide +kernel
theorem dX3_init_5 : decode cX3_init 5 = .ok (.bipush 8, 2) := by decide +kernel
theorem dX3_init_7 : decode cX3_init 7 = .ok (.newarray .int, 2) := by decide +kernel
theorem dX3_init_9 : decode cX3_init 9 = .ok (.putfield 9, 3) := by decide +kernel
theorem dX3_init_12 : decode cX3_init 12 = .ok (.aload_n 0, 1) := by decide +kernel
theorem dX3_init_13 : decode cX3_init 13 = .ok (.bipush 8, 2) := by decide +kernel
theorem dX3_init_15 : decode cX3_init 15 = .ok (.newarray .int, 2) := by decide +kernel
theorem dX3_init_17 : decode cX3_init 17 = .ok (.putfield 15, 3) := by decide +kernel
theorem dX3_init_20 : decode cX3_init 20 = .ok (.aload_n 0, 1) := by decide +kernel
theorem dX3_init_21 : decode cX3_init 21 = .ok (.bipush 16, 2) := by decide +kernel
theorem dX3_init_23 : decode cX3_init 23 = .ok (.newarray .int, 2) := by decide +kernel
theorem dX3_init_25 : decode cX3_init 25 = .ok (.putfield 18, 3) := by decide +kernel
theorem dX3_init_28 : decode cX3_init 28 = .ok (.aload_n 0, 1) := by decide +kernel
theorem dX3_init_29 : decode cX3_init 29 = .ok (.bipush 8, 2) := by decide +kernel
theorem dX3_init_31 : decode cX3_init 31 = .ok (.newarray .int, 2) := by decide +kernel
theorem dX3_init_33 : decode cX3_init 33 = .ok (.putfield 21, 3) := by decide +kernel
theorem dX3_init_36 : decode cX3_init 36 = .ok (.aload_n 0, 1) := by decide +kernel
theorem dX3_init_37 : decode cX3_init 37 = .ok (.bipush 8, 2) := by decide +kernel
theorem dX3_init_39 : decode cX3_init 39 = .ok (.newarray .int, 2) := by decide +kernel
theorem dX3_init_41 : decode cX3_init 41 = .ok (.putfield 24, 3) := by decide +kernel
theorem dX3_init_44 : decode cX3_init 44 = .ok (.aload_n 0, 1) := by decide +kernel
theorem dX3_init_45 : decode cX3_init 45 = .ok (.bipush 8, 2) := by decide +kernel
theorem dX3_init_47 : decode cX3_init 47 = .ok (.newarray .int, 2) := by decide +kernel
theorem dX3_init_49 : decode cX3_init 49 = .ok (.putfield 27, 3) := by decide +kernel
theorem dX3_init_52 : decode cX3_init 52 = .ok (.aload_n 0, 1) := by decide +kernel
theorem dX3_init_53 : decode cX3_init 53 = .ok (.bipush 8, 2) := by decide +kernel
theorem dX3_init_55 : decode cX3_init 55 = .ok (.newarray .int, 2) := by decide +kernel
theorem dX3_init_57 : decode cX3_init 57 = .ok (.putfield 30, 3) := by decide +kernel
theorem dX3_init_60 : decode cX3_init 60 = .ok (.aload_n 0, 1) := by decide +kernel
theorem dX3_init_61 : decode cX3_init 61 = .ok (.aload_n 1, 1) := by decide +kernel
theorem dX3_init_62 : decode cX3_init 62 = .ok (.putfield 33, 3) := by decide +kernel
theorem dX3_init_65 : decode cX3_init 65 = .ok (.aload_n 0, 1) := by decide +kernel
theorem dX3_init_66 : decode cX3_init 66 = .ok (.aload_n 2, 1) := by decide +kernel
theorem dX3_init_67 : decode cX3_init 67 = .ok (.putfield 37, 3) := by decide +kernel
theorem dX3_init_70 : decode cX3_init 70 = .ok (.return_, 1) := by decide +kernel
theorem dX3_open_0 : decode cX3_open 0 = .ok (.aload_n 0, 1) := by decide +kernel
theorem dX3_open_1 : decode cX3_open 1 = .ok (.iload_n 1, 1) := by decide +kernel
theorem dX3_open_2 : decode cX3_open 2 = .ok (.putfield 41, 3) := by decide +kernel
theorem dX3_open_5 : decode cX3_open 5 = .ok (.aload_n 0, 1) := by decide +kernel
theorem dX3_open_6 : decode cX3_open 6 = .ok (.iconst 0, 1) := by decide +kernel
theorem dX3_open_7 : decode cX3_open 7 = .ok (.putfield 45, 3) := by decide +kernel
theorem dX3_open_10 : decode cX3_open 10 = .ok (.aload_n 0, 1) := by decide +kernel
theorem dX3_open_11 : decode cX3_open 11 = .ok (.iconst 0, 1) := by decide +kernel
theorem dX3_open_12 : decode cX3_open 12 = .ok (.putfield 48, 3) := by decide +kernel
theorem dX3_open_15 : decode cX3_open 15 = .ok (.aload_n 0, 1) := by decide +kernel
theorem dX3_open_16 : decode cX3_open 16 = .ok (.iconst 0, 1) := by decide +kernel
theorem dX3_open_17 : decode cX3_open 17 = .ok (.putfield 51, 3) := by decide +kernel
theorem dX3_open_20 : decode cX3_open 20 = .ok (.aload_n 0, 1) := by decide +kernel
theorem dX3_open_21 : decode cX3_open 21 = .ok (.iconst 0, 1) := by decide +kernel
theorem dX3_open_22 : decode cX3_open 22 = .ok (.putfield 54, 3) := by decide +kernel
theorem dX3_open_25 : decode cX3_open 25 = .ok (.aload_n 0, 1) := by decide +kernel
theorem dX3_open_26 : decode cX3_open 26 = .ok (.iconst 0, 1) := by decide +kernel
theorem dX3_open_27 : decode cX3_open 27 = .ok (.putfield 57, 3) := by decide +kernel
theorem dX3_open_30 : decode cX3_open 30 = .ok (.aload_n 0, 1) := by decide +kernel
theorem dX3_open_31 : decode cX3_open 31 = .ok (.iconst 1, 1) := by decide +kernel
theorem dX3_open_32 : decode cX3_open 32 = .ok (.putfield 60, 3) := by decide +kernel
theorem dX3_open_35 : decode cX3_open 35 = .ok (.iconst 0, 1) := by decide +kernel
theorem dX3_open_36 : decode cX3_open 36 = .ok (.istore_n 2, 1) := by decide +kernel
theorem dX3_open_37 : decode cX3_open 37 = .ok (.iload_n 2, 1) := by decide +kernel
theorem dX3_open_38 : decode cX3_open 38 = .ok (.bipush 8, 2) := by decide +kernel
theorem dX3_open_40 : decode cX3_open 40 = .ok (.if_icmp .ge 44, 3) := by decide +kernel
theorem dX3_open_43 : decode cX3_open 43 = .ok (.aload_n 0, 1) := by decide +kernel
theorem dX3_open_44 : decode cX3_open 44 = .ok (.getfield 9, 3) := by decide +kernel
theorem dX3_open_47 : decode cX3_open 47 = .ok (.iload_n 2, 1) := by decide +kernel
theorem dX3_open_48 : decode cX3_open 48 = .ok (.iconst (-1), 1) := by decide +kernel
theorem dX3_open_49 : decode cX3_open 49 = .ok (.iastore, 1) := by decide +kernel
theorem dX3_open_50 : decode cX3_open 50 = .ok (.aload_n 0, 1) := by decide +kernel
theorem dX3_open_51 : decode cX3_open 51 = .ok (.getfield 30, 3) := by decide +kernel
theorem dX3_open_54 : decode cX3_open 54 = .ok (.iload_n 2, 1) := by decide +kernel
theorem dX3_open_55 : decode cX3_open 55 = .ok (.iconst (-1), 1) := by decide +kernel
theorem dX3_open_56 : decode cX3_open 56 = .ok (.iastore, 1) := by decide +kernel
theorem dX3_open_57 : decode cX3_open 57 = .ok (.aload_n 0, 1) := by decide +kernel
theorem dX3_open_58 : decode cX3_open 58 = .ok (.getfield 21, 3) := by decide +kernel
theorem dX3_open_61 : decode cX3_open 61 = .ok (.iload_n 2, 1) := by decide +kernel
theorem dX3_open_62 : decode cX3_open 62 = .ok (.iconst 0, 1) := by decide +kernel
theorem dX3_open_63 : decode cX3_open 63 = .ok (.iastore, 1) := by decide +kernel
theorem dX3_open_64 : decode cX3_open 64 = .ok (.aload_n 0, 1) := by decide +kernel
theorem dX3_open_65 : decode cX3_open 65 = .ok (.getfield 24, 3) := by decide +kernel
theorem dX3_open_68 : decode cX3_open 68 = .ok (.iload_n 2, 1) := by decide +kernel
theorem dX3_open_69 : decode cX3_open 69 = .ok (.iconst 0, 1) := by decide +kernel
theorem dX3_open_70 : decode cX3_open 70 = .ok (.iastore, 1) := by decide +kernel
theorem dX3_open_71 : decode cX3_open 71 = .ok (.aload_n 0, 1) := by decide +kernel
theorem dX3_open_72 : decode cX3_open 72 = .ok (.getfield 27, 3) := by decide +kernel
theorem dX3_open_75 : decode cX3_open 75 = .ok (.iload_n 2, 1) := by decide +kernel
theorem dX3_open_76 : decode cX3_open 76 = .ok (.iconst 0, 1) := by decide +kernel
theorem dX3_open_77 : decode cX3_open 77 = .ok (.iastore, 1) := by decide +kernel
theorem dX3_open_78 : decode cX3_open 78 = .ok (.iinc 2 1, 3) := by decide +kernel
theorem dX3_open_81 : decode cX3_open 81 = .ok (.goto (-44), 3) := by decide +kernel
theorem dX3_open_84 : decode cX3_open 84 = .ok (.iconst 0, 1) := by decide +kernel
theorem dX3_open_85 : decode cX3_open 85 = .ok (.istore_n 2, 1) := by decide +kernel
theorem dX3_open_86 : decode cX3_open 86 = .ok (.iload_n 2, 1) := by decide +kernel
theorem dX3_open_87 : decode cX3_open 87 = .ok (.aload_n 0, 1) := by decide +kernel
theorem dX3_open_88 : decode cX3_open 88 = .ok (.getfield 33, 3) := by decide +kernel
theorem dX3_open_91 : decode cX3_open 91 = .ok (.getfield 64, 3) := by decide +kernel
theorem dX3_open_94 : decode cX3_open 94 = .ok (.if_icmp .ge 14, 3) := by decide +kernel
theorem dX3_open_97 : decode cX3_open 97 = .ok (.aload_n 0, 1) := by decide +kernel
theorem dX3_open_98 : decode cX3_open 98 = .ok (.iload_n 2, 1) := by decide +kernel
theorem dX3_open_99 : decode cX3_open 99 = .ok (.invokevirtual 69, 3) := by decide +kernel
theorem dX3_open_102 : decode cX3_open 102 = .ok (.iinc 2 1, 3) := by decide +kernel
theorem dX3_open_105 : decode cX3_open 105 = .ok (.goto (-19), 3) := by decide +kernel
theorem dX3_open_108 : decode cX3_open 108 = .ok (.return_, 1) := by decide +kernel
theorem dX3_standAs_0 : decode cX3_standAs 0 = .ok (.aload_n 0, 1) := by decide +kernel
theorem dX3_standAs_1 : decode cX3_standAs 1 = .ok (.iconst 0, 1) := by decide +kernel
theorem dX3_standAs_2 : decode cX3_standAs 2 = .ok (.putfield 60, 3) := by decide +kernel
theorem dX3_standAs_5 : decode cX3_standAs 5 = .ok (.aload_n 0, 1) := by decide +kernel
theorem dX3_standAs_6 : decode cX3_standAs 6 = .ok (.aload_n 1, 1) := by decide +kernel
theorem dX3_standAs_7 : decode cX3_standAs 7 = .ok (.getfield 41, 3) := by decide +kernel
theorem dX3_standAs_10 : decode cX3_standAs 10 = .ok (.putfield 41, 3) := by decide +kernel
theorem dX3_standAs_13 : decode cX3_standAs 13 = .ok (.aload_n 0, 1) := by decide +kernel
theorem dX3_standAs_14 : decode cX3_standAs 14 = .ok (.aload_n 1, 1) := by decide +kernel
theorem dX3_standAs_15 : decode cX3_standAs 15 = .ok (.getfield 45, 3) := by decide +kernel
theorem dX3_standAs_18 : decode cX3_standAs 18 = .ok (.putfield 45, 3) := by decide +kernel
theorem dX3_standAs_21 : decode cX3_standAs 21 = .ok (.aload_n 0, 1) := by decide +kernel
theorem dX3_standAs_22 : decode cX3_standAs 22 = .ok (.aload_n 1, 1) := by decide +kernel
theorem dX3_standAs_23 : decode cX3_standAs 23 = .ok (.getfield 48, 3) := by decide +kernel
theorem dX3_standAs_26 : decode cX3_standAs 26 = .ok (.putfield 48, 3) := by decide +kernel
theorem dX3_standAs_29 : decode cX3_standAs 29 = .ok (.aload_n 0, 1) := by decide +kernel
theorem dX3_standAs_30 : decode cX3_standAs 30 = .ok (.aload_n 1, 1) := by decide +kernel
theorem dX3_standAs_31 : decode cX3_standAs 31 = .ok (.getfield 51, 3) := by decide +kernel
theorem dX3_standAs_34 : decode cX3_standAs 34 = .ok (.putfield 51, 3) := by decide +kernel
theorem dX3_standAs_37 : decode cX3_standAs 37 = .ok (.aload_n 1, 1) := by decide +kernel
theorem dX3_standAs_38 : decode cX3_standAs 38 = .ok (.getfield 9, 3) := by decide +kernel
theorem dX3_standAs_41 : decode cX3_standAs 41 = .ok (.iconst 0, 1) := by decide +kernel
theorem dX3_standAs_42 : decode cX3_standAs 42 = .ok (.aload_n 0, 1) := by decide +kernel
theorem dX3_standAs_43 : decode cX3_standAs 43 = .ok (.getfield 9, 3) := by decide +kernel
theorem dX3_standAs_46 : decode cX3_standAs 46 = .ok (.iconst 0, 1) := by decide +kernel
theorem dX3_standAs_47 : decode cX3_standAs 47 = .ok (.bipush 8, 2) := by decide +kernel
theorem dX3_standAs_49 : decode cX3_standAs 49 = .ok (.invokestatic 73, 3) := by decide +kernel
theorem dX3_standAs_52 : decode cX3_standAs 52 = .ok (.aload_n 1, 1) := by decide +kernel
theorem dX3_standAs_53 : decode cX3_standAs 53 = .ok (.getfield 15, 3) := by decide +kernel
theorem dX3_standAs_56 : decode cX3_standAs 56 = .ok (.iconst 0, 1) := by decide +kernel
theorem dX3_standAs_57 : decode cX3_standAs 57 = .ok (.aload_n 0, 1) := by decide +kernel
theorem dX3_standAs_58 : decode cX3_standAs 58 = .ok (.getfield 15, 3) := by decide +kernel
theorem dX3_standAs_61 : decode cX3_standAs 61 = .ok (.iconst 0, 1) := by decide +kernel
theorem dX3_standAs_62 : decode cX3_standAs 62 = .ok (.bipush 8, 2) := by decide +kernel
theorem dX3_standAs_64 : decode cX3_standAs 64 = .ok (.invokestatic 73, 3) := by decide +kernel
theorem dX3_standAs_67 : decode cX3_standAs 67 = .ok (.aload_n 1, 1) := by decide +kernel
theorem dX3_standAs_68 : decode cX3_standAs 68 = .ok (.getfield 18, 3) := by decide +kernel
theorem dX3_standAs_71 : decode cX3_standAs 71 = .ok (.iconst 0, 1) := by decide +kernel
theorem dX3_standAs_72 : decode cX3_standAs 72 = .ok (.aload_n 0, 1) := by decide +kernel
theorem dX3_standAs_73 : decode cX3_standAs 73 = .ok (.getfield 18, 3) := by decide +kernel
theorem dX3_standAs_76 : decode cX3_standAs 76 = .ok (.iconst 0, 1) := by decide +kernel
theorem dX3_standAs_77 : decode cX3_standAs 77 = .ok (.aload_n 0, 1) := by decide +kernel
theorem dX3_standAs_78 : decode cX3_standAs 78 = .ok (.getfield 18, 3) := by decide +kernel
theorem dX3_standAs_81 : decode cX3_standAs 81 = .ok (.arraylength, 1) := by decide +kernel
theorem dX3_standAs_82 : decode cX3_standAs 82 = .ok (.invokestatic 73, 3) := by decide +kernel
theorem dX3_standAs_85 : decode cX3_standAs 85 = .ok (.return_, 1) := by decide +kernel
theorem dX3_live_0 : decode cX3_live 0 = .ok (.iload_n 2, 1) := by decide +kernel
theorem dX3_live_1 : decode cX3_live 1 = .ok (.istore 4, 2) := by decide +kernel
theorem dX3_live_3 : decode cX3_live 3 = .ok (.iload 4, 2) := by decide +kernel
theorem dX3_live_5 : decode cX3_live 5 = .ok (.iload_n 3, 1) := by decide +kernel
theorem dX3_live_6 : decode cX3_live 6 = .ok (.if_icmp .ge 87, 3) := by decide +kernel
theorem dX3_live_9 : decode cX3_live 9 = .ok (.aload_n 1, 1) := by decide +kernel
theorem dX3_live_10 : decode cX3_live 10 = .ok (.iload 4, 2) := by decide +kernel
theorem dX3_live_12 : decode cX3_live 12 = .ok (.invokevirtual 79, 3) := by decide +kernel
theorem dX3_live_15 : decode cX3_live 15 = .ok (.istore 5, 2) := by decide +kernel
theorem dX3_live_17 : decode cX3_live 17 = .ok (.aload_n 0, 1) := by decide +kernel
theorem dX3_live_18 : decode cX3_live 18 = .ok (.iload 5, 2) := by decide +kernel
theorem dX3_live_20 : decode cX3_live 20 = .ok (.invokevirtual 85, 3) := by decide +kernel
theorem dX3_live_23 : decode cX3_live 23 = .ok (.ifCond .eq 6, 3) := by decide +kernel
theorem dX3_live_26 : decode cX3_live 26 = .ok (.iload 4, 2) := by decide +kernel
theorem dX3_live_28 : decode cX3_live 28 = .ok (.ireturn, 1) := by decide +kernel
theorem dX3_live_29 : decode cX3_live 29 = .ok (.iload 5, 2) := by decide +kernel
theorem dX3_live_31 : decode cX3_live 31 = .ok (.invokestatic 88, 3) := by decide +kernel
theorem dX3_live_34 : decode cX3_live 34 = .ok (.ifCond .eq 15, 3) := by decide +kernel
theorem dX3_live_37 : decode cX3_live 37 = .ok (.aload_n 0, 1) := by decide +kernel
theorem dX3_live_38 : decode cX3_live 38 = .ok (.iload 5, 2) := by decide +kernel
theorem dX3_live_40 : decode cX3_live 40 = .ok (.bipush 65, 2) := by decide +kernel
theorem dX3_live_42 : decode cX3_live 42 = .ok (.isub, 1) := by decide +kernel
theorem dX3_live_43 : decode cX3_live 43 = .ok (.invokevirtual 92, 3) := by decide +kernel
theorem dX3_live_46 : decode cX3_live 46 = .ok (.goto 41, 3) := by decide +kernel
theorem dX3_live_49 : decode cX3_live 49 = .ok (.iload 5, 2) := by decide +kernel
theorem dX3_live_51 : decode cX3_live 51 = .ok (.invokestatic 95, 3) := by decide +kernel
theorem dX3_live_54 : decode cX3_live 54 = .ok (.ifCond .eq 15, 3) := by decide +kernel
theorem dX3_live_57 : decode cX3_live 57 = .ok (.aload_n 0, 1) := by decide +kernel
theorem dX3_live_58 : decode cX3_live 58 = .ok (.iload 5, 2) := by decide +kernel
theorem dX3_live_60 : decode cX3_live 60 = .ok (.bipush 97, 2) := by decide +kernel
theorem dX3_live_62 : decode cX3_live 62 = .ok (.isub, 1) := by decide +kernel
theorem dX3_live_63 : decode cX3_live 63 = .ok (.invokevirtual 98, 3) := by decide +kernel
theorem dX3_live_66 : decode cX3_live 66 = .ok (.goto 21, 3) := by decide +kernel
theorem dX3_live_69 : decode cX3_live 69 = .ok (.iload 5, 2) := by decide +kernel
theorem dX3_live_71 : decode cX3_live 71 = .ok (.bipush 46, 2) := by decide +kernel
theorem dX3_live_73 : decode cX3_live 73 = .ok (.if_icmp .ne 14, 3) := by decide +kernel
theorem dX3_live_76 : decode cX3_live 76 = .ok (.aload_n 0, 1) := by decide +kernel
theorem dX3_live_77 : decode cX3_live 77 = .ok (.getfield 60, 3) := by decide +kernel
theorem dX3_live_80 : decode cX3_live 80 = .ok (.ifCond .eq 7, 3) := by decide +kernel
theorem dX3_live_83 : decode cX3_live 83 = .ok (.aload_n 0, 1) := by decide +kernel
theorem dX3_live_84 : decode cX3_live 84 = .ok (.invokevirtual 101, 3) := by decide +kernel
theorem dX3_live_87 : decode cX3_live 87 = .ok (.iinc 4 1, 3) := by decide +kernel
theorem dX3_live_90 : decode cX3_live 90 = .ok (.goto (-87), 3) := by decide +kernel
theorem dX3_live_93 : decode cX3_live 93 = .ok (.bipush (-6), 2) := by decide +kernel
theorem dX3_live_95 : decode cX3_live 95 = .ok (.ireturn, 1) := by decide +kernel
theorem dX3_whyNot_0 : decode cX3_whyNot 0 = .ok (.iload_n 1, 1) := by decide +kernel
theorem dX3_whyNot_1 : decode cX3_whyNot 1 = .ok (.invokestatic 88, 3) := by decide +kernel
theorem dX3_whyNot_4 : decode cX3_whyNot 4 = .ok (.ifCond .eq 16, 3) := by decide +kernel
theorem dX3_whyNot_7 : decode cX3_whyNot 7 = .ok (.aload_n 0, 1) := by decide +kernel
theorem dX3_whyNot_8 : decode cX3_whyNot 8 = .ok (.iload_n 1, 1) := by decide +kernel
theorem dX3_whyNot_9 : decode cX3_whyNot 9 = .ok (.bipush 65, 2) := by decide +kernel
theorem dX3_whyNot_11 : decode cX3_whyNot 11 = .ok (.isub, 1) := by decide +kernel
theorem dX3_whyNot_12 : decode cX3_whyNot 12 = .ok (.invokevirtual 104, 3) := by decide +kernel
theorem dX3_whyNot_15 : decode cX3_whyNot 15 = .ok (.ifCond .eq 5, 3) := by decide +kernel
theorem dX3_whyNot_18 : decode cX3_whyNot 18 = .ok (.iconst 1, 1) := by decide +kernel
theorem dX3_whyNot_19 : decode cX3_whyNot 19 = .ok (.ireturn, 1) := by decide +kernel
theorem dX3_whyNot_20 : decode cX3_whyNot 20 = .ok (.iload_n 1, 1) := by decide +kernel
theorem dX3_whyNot_21 : decode cX3_whyNot 21 = .ok (.invokestatic 95, 3) := by decide +kernel
theorem dX3_whyNot_24 : decode cX3_whyNot 24 = .ok (.ifCond .eq 16, 3) := by decide +kernel
theorem dX3_whyNot_27 : decode cX3_whyNot 27 = .ok (.aload_n 0, 1) := by decide +kernel
theorem dX3_whyNot_28 : decode cX3_whyNot 28 = .ok (.iload_n 1, 1) := by decide +kernel
theorem dX3_whyNot_29 : decode cX3_whyNot 29 = .ok (.bipush 97, 2) := by decide +kernel
theorem dX3_whyNot_31 : decode cX3_whyNot 31 = .ok (.isub, 1) := by decide +kernel
theorem dX3_whyNot_32 : decode cX3_whyNot 32 = .ok (.invokevirtual 104, 3) := by decide +kernel
theorem dX3_whyNot_35 : decode cX3_whyNot 35 = .ok (.ifCond .ne 5, 3) := by decide +kernel
theorem dX3_whyNot_38 : decode cX3_whyNot 38 = .ok (.iconst 2, 1) := by decide +kernel
theorem dX3_whyNot_39 : decode cX3_whyNot 39 = .ok (.ireturn, 1) := by decide +kernel
theorem dX3_whyNot_40 : decode cX3_whyNot 40 = .ok (.iconst 0, 1) := by decide +kernel
theorem dX3_whyNot_41 : decode cX3_whyNot 41 = .ok (.ireturn, 1) := by decide +kernel
theorem dX3_takeIn_0 : decode cX3_takeIn 0 = .ok (.aload_n 0, 1) := by decide +kernel
theorem dX3_takeIn_1 : decode cX3_takeIn 1 = .ok (.dup, 1) := by decide +kernel
theorem dX3_takeIn_2 : decode cX3_takeIn 2 = .ok (.getfield 45, 3) := by decide +kernel
theorem dX3_takeIn_5 : decode cX3_takeIn 5 = .ok (.iload_n 1, 1) := by decide +kernel
theorem dX3_takeIn_6 : decode cX3_takeIn 6 = .ok (.invokestatic 107, 3) := by decide +kernel
theorem dX3_takeIn_9 : decode cX3_takeIn 9 = .ok (.ior, 1) := by decide +kernel
theorem dX3_takeIn_10 : decode cX3_takeIn 10 = .ok (.putfield 45, 3) := by decide +kernel
theorem dX3_takeIn_13 : decode cX3_takeIn 13 = .ok (.aload_n 0, 1) := by decide +kernel
theorem dX3_takeIn_14 : decode cX3_takeIn 14 = .ok (.iload_n 1, 1) := by decide +kernel
theorem dX3_takeIn_15 : decode cX3_takeIn 15 = .ok (.invokevirtual 110, 3) := by decide +kernel
theorem dX3_takeIn_18 : decode cX3_takeIn 18 = .ok (.istore_n 2, 1) := by decide +kernel
theorem dX3_takeIn_19 : decode cX3_takeIn 19 = .ok (.iload_n 2, 1) := by decide +kernel
theorem dX3_takeIn_20 : decode cX3_takeIn 20 = .ok (.iconst (-1), 1) := by decide +kernel
theorem dX3_takeIn_21 : decode cX3_takeIn 21 = .ok (.if_icmp .ne 11, 3) := by decide +kernel
theorem dX3_takeIn_24 : decode cX3_takeIn 24 = .ok (.aload_n 0, 1) := by decide +kernel
theorem dX3_takeIn_25 : decode cX3_takeIn 25 = .ok (.iload_n 1, 1) := by decide +kernel
theorem dX3_takeIn_26 : decode cX3_takeIn 26 = .ok (.invokevirtual 113, 3) := by decide +kernel
theorem dX3_takeIn_29 : decode cX3_takeIn 29 = .ok (.goto 13, 3) := by decide +kernel
theorem dX3_takeIn_32 : decode cX3_takeIn 32 = .ok (.aload_n 0, 1) := by decide +kernel
theorem dX3_takeIn_33 : decode cX3_takeIn 33 = .ok (.aload_n 0, 1) := by decide +kernel
theorem dX3_takeIn_34 : decode cX3_takeIn 34 = .ok (.iload_n 2, 1) := by decide +kernel
theorem dX3_takeIn_35 : decode cX3_takeIn 35 = .ok (.invokevirtual 116, 3) := by decide +kernel
theorem dX3_takeIn_38 : decode cX3_takeIn 38 = .ok (.iload_n 1, 1) := by decide +kernel
theorem dX3_takeIn_39 : decode cX3_takeIn 39 = .ok (.invokevirtual 119, 3) := by decide +kernel
theorem dX3_takeIn_42 : decode cX3_takeIn 42 = .ok (.return_, 1) := by decide +kernel
theorem dX3_letGo_0 : decode cX3_letGo 0 = .ok (.aload_n 0, 1) := by decide +kernel
theorem dX3_letGo_1 : decode cX3_letGo 1 = .ok (.iload_n 1, 1) := by decide +kernel
theorem dX3_letGo_2 : decode cX3_letGo 2 = .ok (.invokevirtual 123, 3) := by decide +kernel
theorem dX3_letGo_5 : decode cX3_letGo 5 = .ok (.istore_n 2, 1) := by decide +kernel
theorem dX3_letGo_6 : decode cX3_letGo 6 = .ok (.iload_n 2, 1) := by decide +kernel
theorem dX3_letGo_7 : decode cX3_letGo 7 = .ok (.iconst (-1), 1) := by decide +kernel
theorem dX3_letGo_8 : decode cX3_letGo 8 = .ok (.if_icmp .ne 26, 3) := by decide +kernel
theorem dX3_letGo_11 : decode cX3_letGo 11 = .ok (.aload_n 0, 1) := by decide +kernel
theorem dX3_letGo_12 : decode cX3_letGo 12 = .ok (.dup, 1) := by decide +kernel
theorem dX3_letGo_13 : decode cX3_letGo 13 = .ok (.getfield 45, 3) := by decide +kernel
theorem dX3_letGo_16 : decode cX3_letGo 16 = .ok (.iload_n 1, 1) := by decide +kernel
theorem dX3_letGo_17 : decode cX3_letGo 17 = .ok (.invokestatic 107, 3) := by decide +kernel
theorem dX3_letGo_20 : decode cX3_letGo 20 = .ok (.iconst (-1), 1) := by decide +kernel
theorem dX3_letGo_21 : decode cX3_letGo 21 = .ok (.ixor, 1) := by decide +kernel
theorem dX3_letGo_22 : decode cX3_letGo 22 = .ok (.iand, 1) := by decide +kernel
theorem dX3_letGo_23 : decode cX3_letGo 23 = .ok (.putfield 45, 3) := by decide +kernel
theorem dX3_letGo_26 : decode cX3_letGo 26 = .ok (.aload_n 0, 1) := by decide +kernel
theorem dX3_letGo_27 : decode cX3_letGo 27 = .ok (.iload_n 1, 1) := by decide +kernel
theorem dX3_letGo_28 : decode cX3_letGo 28 = .ok (.invokevirtual 126, 3) := by decide +kernel
theorem dX3_letGo_31 : decode cX3_letGo 31 = .ok (.goto 8, 3) := by decide +kernel
theorem dX3_letGo_34 : decode cX3_letGo 34 = .ok (.aload_n 0, 1) := by decide +kernel
theorem dX3_letGo_35 : decode cX3_letGo 35 = .ok (.iload_n 2, 1) := by decide +kernel
theorem dX3_letGo_36 : decode cX3_letGo 36 = .ok (.invokevirtual 129, 3) := by decide +kernel
theorem dX3_letGo_39 : decode cX3_letGo 39 = .ok (.return_, 1) := by decide +kernel
theorem dX3_emptyLeastBed_0 : decode cX3_emptyLeastBed 0 = .ok (.iconst 0, 1) := by decide +kernel
theorem dX3_emptyLeastBed_1 : decode cX3_emptyLeastBed 1 = .ok (.istore_n 1, 1) := by decide +kernel
theorem dX3_emptyLeastBed_2 : decode cX3_emptyLeastBed 2 = .ok (.iload_n 1, 1) := by decide +kernel
theorem dX3_emptyLeastBed_3 : decode cX3_emptyLeastBed 3 = .ok (.bipush 8, 2) := by decide +kernel
theorem dX3_emptyLeastBed_5 : decode cX3_emptyLeastBed 5 = .ok (.if_icmp .ge 25, 3) := by decide +kernel
theorem dX3_emptyLeastBed_8 : decode cX3_emptyLeastBed 8 = .ok (.aload_n 0, 1) := by decide +kernel
theorem dX3_emptyLeastBed_9 : decode cX3_emptyLeastBed 9 = .ok (.getfield 9, 3) := by decide +kernel
theorem dX3_emptyLeastBed_12 : decode cX3_emptyLeastBed 12 = .ok (.iload_n 1, 1) := by decide +kernel
theorem dX3_emptyLeastBed_13 : decode cX3_emptyLeastBed 13 = .ok (.iaload, 1) := by decide +kernel
theorem dX3_emptyLeastBed_14 : decode cX3_emptyLeastBed 14 = .ok (.iconst (-1), 1) := by decide +kernel
theorem dX3_emptyLeastBed_15 : decode cX3_emptyLeastBed 15 = .ok (.if_icmp .eq 9, 3) := by decide +kernel
theorem dX3_emptyLeastBed_18 : decode cX3_emptyLeastBed 18 = .ok (.aload_n 0, 1) := by decide +kernel
theorem dX3_emptyLeastBed_19 : decode cX3_emptyLeastBed 19 = .ok (.iload_n 1, 1) := by decide +kernel
theorem dX3_emptyLeastBed_20 : decode cX3_emptyLeastBed 20 = .ok (.invokevirtual 129, 3) := by decide +kernel
theorem dX3_emptyLeastBed_23 : decode cX3_emptyLeastBed 23 = .ok (.return_, 1) := by decide +kernel
theorem dX3_emptyLeastBed_24 : decode cX3_emptyLeastBed 24 = .ok (.iinc 1 1, 3) := by decide +kernel
theorem dX3_emptyLeastBed_27 : decode cX3_emptyLeastBed 27 = .ok (.goto (-25), 3) := by decide +kernel
theorem dX3_emptyLeastBed_30 : decode cX3_emptyLeastBed 30 = .ok (.return_, 1) := by decide +kernel
theorem dX3_clear_0 : decode cX3_clear 0 = .ok (.aload_n 0, 1) := by decide +kernel
theorem dX3_clear_1 : decode cX3_clear 1 = .ok (.dup, 1) := by decide +kernel
theorem dX3_clear_2 : decode cX3_clear 2 = .ok (.getfield 45, 3) := by decide +kernel
theorem dX3_clear_5 : decode cX3_clear 5 = .ok (.aload_n 0, 1) := by decide +kernel
theorem dX3_clear_6 : decode cX3_clear 6 = .ok (.iload_n 1, 1) := by decide +kernel
theorem dX3_clear_7 : decode cX3_clear 7 = .ok (.invokevirtual 132, 3) := by decide +kernel
theorem dX3_clear_10 : decode cX3_clear 10 = .ok (.invokestatic 107, 3) := by decide +kernel
theorem dX3_clear_13 : decode cX3_clear 13 = .ok (.iconst (-1), 1) := by decide +kernel
theorem dX3_clear_14 : decode cX3_clear 14 = .ok (.ixor, 1) := by decide +kernel
theorem dX3_clear_15 : decode cX3_clear 15 = .ok (.iand, 1) := by decide +kernel
theorem dX3_clear_16 : decode cX3_clear 16 = .ok (.putfield 45, 3) := by decide +kernel
theorem dX3_clear_19 : decode cX3_clear 19 = .ok (.aload_n 0, 1) := by decide +kernel
theorem dX3_clear_20 : decode cX3_clear 20 = .ok (.getfield 51, 3) := by decide +kernel
theorem dX3_clear_23 : decode cX3_clear 23 = .ok (.ifCond .le 24, 3) := by decide +kernel
theorem dX3_clear_26 : decode cX3_clear 26 = .ok (.aload_n 0, 1) := by decide +kernel
theorem dX3_clear_27 : decode cX3_clear 27 = .ok (.getfield 18, 3) := by decide +kernel
theorem dX3_clear_30 : decode cX3_clear 30 = .ok (.iconst 0, 1) := by decide +kernel
theorem dX3_clear_31 : decode cX3_clear 31 = .ok (.iaload, 1) := by decide +kernel
theorem dX3_clear_32 : decode cX3_clear 32 = .ok (.istore_n 2, 1) := by decide +kernel
theorem dX3_clear_33 : decode cX3_clear 33 = .ok (.aload_n 0, 1) := by decide +kernel
theorem dX3_clear_34 : decode cX3_clear 34 = .ok (.iload_n 2, 1) := by decide +kernel
theorem dX3_clear_35 : decode cX3_clear 35 = .ok (.invokevirtual 126, 3) := by decide +kernel
theorem dX3_clear_38 : decode cX3_clear 38 = .ok (.aload_n 0, 1) := by decide +kernel
theorem dX3_clear_39 : decode cX3_clear 39 = .ok (.iload_n 1, 1) := by decide +kernel
theorem dX3_clear_40 : decode cX3_clear 40 = .ok (.iload_n 2, 1) := by decide +kernel
theorem dX3_clear_41 : decode cX3_clear 41 = .ok (.invokevirtual 119, 3) := by decide +kernel
theorem dX3_clear_44 : decode cX3_clear 44 = .ok (.goto 8, 3) := by decide +kernel
theorem dX3_clear_47 : decode cX3_clear 47 = .ok (.aload_n 0, 1) := by decide +kernel
theorem dX3_clear_48 : decode cX3_clear 48 = .ok (.iload_n 1, 1) := by decide +kernel
theorem dX3_clear_49 : decode cX3_clear 49 = .ok (.invokevirtual 69, 3) := by decide +kernel
theorem dX3_clear_52 : decode cX3_clear 52 = .ok (.return_, 1) := by decide +kernel
theorem dX3_passNight_0 : decode cX3_passNight 0 = .ok (.iconst 0, 1) := by decide +kernel
theorem dX3_passNight_1 : decode cX3_passNight 1 = .ok (.istore_n 1, 1) := by decide +kernel
theorem dX3_passNight_2 : decode cX3_passNight 2 = .ok (.iload_n 1, 1) := by decide +kernel
theorem dX3_passNight_3 : decode cX3_passNight 3 = .ok (.bipush 8, 2) := by decide +kernel
theorem dX3_passNight_5 : decode cX3_passNight 5 = .ok (.if_icmp .ge 40, 3) := by decide +kernel
theorem dX3_passNight_8 : decode cX3_passNight 8 = .ok (.aload_n 0, 1) := by decide +kernel
theorem dX3_passNight_9 : decode cX3_passNight 9 = .ok (.getfield 9, 3) := by decide +kernel
theorem dX3_passNight_12 : decode cX3_passNight 12 = .ok (.iload_n 1, 1) := by decide +kernel
theorem dX3_passNight_13 : decode cX3_passNight 13 = .ok (.iaload, 1) := by decide +kernel
theorem dX3_passNight_14 : decode cX3_passNight 14 = .ok (.iconst (-1), 1) := by decide +kernel
theorem dX3_passNight_15 : decode cX3_passNight 15 = .ok (.if_icmp .eq 24, 3) := by decide +kernel
theorem dX3_passNight_18 : decode cX3_passNight 18 = .ok (.aload_n 0, 1) := by decide +kernel
theorem dX3_passNight_19 : decode cX3_passNight 19 = .ok (.getfield 21, 3) := by decide +kernel
theorem dX3_passNight_22 : decode cX3_passNight 22 = .ok (.iload_n 1, 1) := by decide +kernel
theorem dX3_passNight_23 : decode cX3_passNight 23 = .ok (.dup2, 1) := by decide +kernel
theorem dX3_passNight_24 : decode cX3_passNight 24 = .ok (.iaload, 1) := by decide +kernel
theorem dX3_passNight_25 : decode cX3_passNight 25 = .ok (.iconst 1, 1) := by decide +kernel
theorem dX3_passNight_26 : decode cX3_passNight 26 = .ok (.iadd, 1) := by decide +kernel
theorem dX3_passNight_27 : decode cX3_passNight 27 = .ok (.iastore, 1) := by decide +kernel
theorem dX3_passNight_28 : decode cX3_passNight 28 = .ok (.aload_n 0, 1) := by decide +kernel
theorem dX3_passNight_29 : decode cX3_passNight 29 = .ok (.iload_n 1, 1) := by decide +kernel
theorem dX3_passNight_30 : decode cX3_passNight 30 = .ok (.aload_n 0, 1) := by decide +kernel
theorem dX3_passNight_31 : decode cX3_passNight 31 = .ok (.getfield 9, 3) := by decide +kernel
theorem dX3_passNight_34 : decode cX3_passNight 34 = .ok (.iload_n 1, 1) := by decide +kernel
theorem dX3_passNight_35 : decode cX3_passNight 35 = .ok (.iaload, 1) := by decide +kernel
theorem dX3_passNight_36 : decode cX3_passNight 36 = .ok (.invokevirtual 135, 3) := by decide +kernel
theorem dX3_passNight_39 : decode cX3_passNight 39 = .ok (.iinc 1 1, 3) := by decide +kernel
theorem dX3_passNight_42 : decode cX3_passNight 42 = .ok (.goto (-40), 3) := by decide +kernel
theorem dX3_passNight_45 : decode cX3_passNight 45 = .ok (.return_, 1) := by decide +kernel
theorem dX3_shareFleas_0 : decode cX3_shareFleas 0 = .ok (.aload_n 0, 1) := by decide +kernel
theorem dX3_shareFleas_1 : decode cX3_shareFleas 1 = .ok (.getfield 54, 3) := by decide +kernel
theorem dX3_shareFleas_4 : decode cX3_shareFleas 4 = .ok (.iload_n 2, 1) := by decide +kernel
theorem dX3_shareFleas_5 : decode cX3_shareFleas 5 = .ok (.invokestatic 107, 3) := by decide +kernel
theorem dX3_shareFleas_8 : decode cX3_shareFleas 8 = .ok (.iand, 1) := by decide +kernel
theorem dX3_shareFleas_9 : decode cX3_shareFleas 9 = .ok (.ifCond .ne 14, 3) := by decide +kernel
theorem dX3_shareFleas_12 : decode cX3_shareFleas 12 = .ok (.aload_n 0, 1) := by decide +kernel
theorem dX3_shareFleas_13 : decode cX3_shareFleas 13 = .ok (.getfield 57, 3) := by decide +kernel
theorem dX3_shareFleas_16 : decode cX3_shareFleas 16 = .ok (.iconst 1, 1) := by decide +kernel
theorem dX3_shareFleas_17 : decode cX3_shareFleas 17 = .ok (.iload_n 1, 1) := by decide +kernel
theorem dX3_shareFleas_18 : decode cX3_shareFleas 18 = .ok (.ishl, 1) := by decide +kernel
theorem dX3_shareFleas_19 : decode cX3_shareFleas 19 = .ok (.iand, 1) := by decide +kernel
theorem dX3_shareFleas_20 : decode cX3_shareFleas 20 = .ok (.ifCond .eq 28, 3) := by decide +kernel
theorem dX3_shareFleas_23 : decode cX3_shareFleas 23 = .ok (.aload_n 0, 1) := by decide +kernel
theorem dX3_shareFleas_24 : decode cX3_shareFleas 24 = .ok (.dup, 1) := by decide +kernel
theorem dX3_shareFleas_25 : decode cX3_shareFleas 25 = .ok (.getfield 54, 3) := by decide +kernel
theorem dX3_shareFleas_28 : decode cX3_shareFleas 28 = .ok (.iload_n 2, 1) := by decide +kernel
theorem dX3_shareFleas_29 : decode cX3_shareFleas 29 = .ok (.invokestatic 107, 3) := by decide +kernel
theorem dX3_shareFleas_32 : decode cX3_shareFleas 32 = .ok (.ior, 1) := by decide +kernel
theorem dX3_shareFleas_33 : decode cX3_shareFleas 33 = .ok (.putfield 54, 3) := by decide +kernel
theorem dX3_shareFleas_36 : decode cX3_shareFleas 36 = .ok (.aload_n 0, 1) := by decide +kernel
theorem dX3_shareFleas_37 : decode cX3_shareFleas 37 = .ok (.dup, 1) := by decide +kernel
theorem dX3_shareFleas_38 : decode cX3_shareFleas 38 = .ok (.getfield 57, 3) := by decide +kernel
theorem dX3_shareFleas_41 : decode cX3_shareFleas 41 = .ok (.iconst 1, 1) := by decide +kernel
theorem dX3_shareFleas_42 : decode cX3_shareFleas 42 = .ok (.iload_n 1, 1) := by decide +kernel
theorem dX3_shareFleas_43 : decode cX3_shareFleas 43 = .ok (.ishl, 1) := by decide +kernel
theorem dX3_shareFleas_44 : decode cX3_shareFleas 44 = .ok (.ior, 1) := by decide +kernel
theorem dX3_shareFleas_45 : decode cX3_shareFleas 45 = .ok (.putfield 57, 3) := by decide +kernel
theorem dX3_shareFleas_48 : decode cX3_shareFleas 48 = .ok (.return_, 1) := by decide +kernel
theorem dX3_infest_0 : decode cX3_infest 0 = .ok (.iload_n 1, 1) := by decide +kernel
theorem dX3_infest_1 : decode cX3_infest 1 = .ok (.bipush 8, 2) := by decide +kernel
theorem dX3_infest_3 : decode cX3_infest 3 = .ok (.if_icmp .ge 19, 3) := by decide +kernel
theorem dX3_infest_6 : decode cX3_infest 6 = .ok (.aload_n 0, 1) := by decide +kernel
theorem dX3_infest_7 : decode cX3_infest 7 = .ok (.dup, 1) := by decide +kernel
theorem dX3_infest_8 : decode cX3_infest 8 = .ok (.getfield 54, 3) := by decide +kernel
theorem dX3_infest_11 : decode cX3_infest 11 = .ok (.iload_n 1, 1) := by decide +kernel
theorem dX3_infest_12 : decode cX3_infest 12 = .ok (.invokestatic 107, 3) := by decide +kernel
theorem dX3_infest_15 : decode cX3_infest 15 = .ok (.ior, 1) := by decide +kernel
theorem dX3_infest_16 : decode cX3_infest 16 = .ok (.putfield 54, 3) := by decide +kernel
theorem dX3_infest_19 : decode cX3_infest 19 = .ok (.goto 18, 3) := by decide +kernel
theorem dX3_infest_22 : decode cX3_infest 22 = .ok (.aload_n 0, 1) := by decide +kernel
theorem dX3_infest_23 : decode cX3_infest 23 = .ok (.dup, 1) := by decide +kernel
theorem dX3_infest_24 : decode cX3_infest 24 = .ok (.getfield 57, 3) := by decide +kernel
theorem dX3_infest_27 : decode cX3_infest 27 = .ok (.iconst 1, 1) := by decide +kernel
theorem dX3_infest_28 : decode cX3_infest 28 = .ok (.iload_n 1, 1) := by decide +kernel
theorem dX3_infest_29 : decode cX3_infest 29 = .ok (.bipush 8, 2) := by decide +kernel
theorem dX3_infest_31 : decode cX3_infest 31 = .ok (.isub, 1) := by decide +kernel
theorem dX3_infest_32 : decode cX3_infest 32 = .ok (.ishl, 1) := by decide +kernel
theorem dX3_infest_33 : decode cX3_infest 33 = .ok (.ior, 1) := by decide +kernel
theorem dX3_infest_34 : decode cX3_infest 34 = .ok (.putfield 57, 3) := by decide +kernel
theorem dX3_infest_37 : decode cX3_infest 37 = .ok (.return_, 1) := by decide +kernel
theorem dX3_choice_0 : decode cX3_choice 0 = .ok (.aload_n 0, 1) := by decide +kernel
theorem dX3_choice_1 : decode cX3_choice 1 = .ok (.getfield 48, 3) := by decide +kernel
theorem dX3_choice_4 : decode cX3_choice 4 = .ok (.ifCond .ne 5, 3) := by decide +kernel
theorem dX3_choice_7 : decode cX3_choice 7 = .ok (.iconst (-1), 1) := by decide +kernel
theorem dX3_choice_8 : decode cX3_choice 8 = .ok (.ireturn, 1) := by decide +kernel
theorem dX3_choice_9 : decode cX3_choice 9 = .ok (.aload_n 0, 1) := by decide +kernel
theorem dX3_choice_10 : decode cX3_choice 10 = .ok (.getfield 41, 3) := by decide +kernel
theorem dX3_choice_13 : decode cX3_choice 13 = .ok (.tableswitch 41 0 2 #[27, 34, 36], 27) := by decide +kernel
theorem dX3_choice_40 : decode cX3_choice 40 = .ok (.aload_n 0, 1) := by decide +kernel
theorem dX3_choice_41 : decode cX3_choice 41 = .ok (.getfield 48, 3) := by decide +kernel
theorem dX3_choice_44 : decode cX3_choice 44 = .ok (.iconst 1, 1) := by decide +kernel
theorem dX3_choice_45 : decode cX3_choice 45 = .ok (.isub, 1) := by decide +kernel
theorem dX3_choice_46 : decode cX3_choice 46 = .ok (.ireturn, 1) := by decide +kernel
theorem dX3_choice_47 : decode cX3_choice 47 = .ok (.iconst 0, 1) := by decide +kernel
theorem dX3_choice_48 : decode cX3_choice 48 = .ok (.ireturn, 1) := by decide +kernel
theorem dX3_choice_49 : decode cX3_choice 49 = .ok (.aload_n 0, 1) := by decide +kernel
theorem dX3_choice_50 : decode cX3_choice 50 = .ok (.invokevirtual 138, 3) := by decide +kernel
theorem dX3_choice_53 : decode cX3_choice 53 = .ok (.ireturn, 1) := by decide +kernel
theorem dX3_choice_54 : decode cX3_choice 54 = .ok (.aload_n 0, 1) := by decide +kernel
theorem dX3_choice_55 : decode cX3_choice 55 = .ok (.iload_n 1, 1) := by decide +kernel
theorem dX3_choice_56 : decode cX3_choice 56 = .ok (.invokevirtual 142, 3) := by decide +kernel
theorem dX3_choice_59 : decode cX3_choice 59 = .ok (.ireturn, 1) := by decide +kernel
theorem dX3_leastOfEmpty_0 : decode cX3_leastOfEmpty 0 = .ok (.iconst 0, 1) := by decide +kernel
theorem dX3_leastOfEmpty_1 : decode cX3_leastOfEmpty 1 = .ok (.istore_n 1, 1) := by decide +kernel
theorem dX3_leastOfEmpty_2 : decode cX3_leastOfEmpty 2 = .ok (.iconst 1, 1) := by decide +kernel
theorem dX3_leastOfEmpty_3 : decode cX3_leastOfEmpty 3 = .ok (.istore_n 2, 1) := by decide +kernel
theorem dX3_leastOfEmpty_4 : decode cX3_leastOfEmpty 4 = .ok (.iload_n 2, 1) := by decide +kernel
theorem dX3_leastOfEmpty_5 : decode cX3_leastOfEmpty 5 = .ok (.bipush 8, 2) := by decide +kernel
theorem dX3_leastOfEmpty_7 : decode cX3_leastOfEmpty 7 = .ok (.if_icmp .ge 34, 3) := by decide +kernel
theorem dX3_leastOfEmpty_10 : decode cX3_leastOfEmpty 10 = .ok (.iload_n 2, 1) := by decide +kernel
theorem dX3_leastOfEmpty_11 : decode cX3_leastOfEmpty 11 = .ok (.aload_n 0, 1) := by decide +kernel
theorem dX3_leastOfEmpty_12 : decode cX3_leastOfEmpty 12 = .ok (.getfield 48, 3) := by decide +kernel
theorem dX3_leastOfEmpty_15 : decode cX3_leastOfEmpty 15 = .ok (.if_icmp .ge 26, 3) := by decide +kernel
theorem dX3_leastOfEmpty_18 : decode cX3_leastOfEmpty 18 = .ok (.aload_n 0, 1) := by decide +kernel
theorem dX3_leastOfEmpty_19 : decode cX3_leastOfEmpty 19 = .ok (.getfield 15, 3) := by decide +kernel
theorem dX3_leastOfEmpty_22 : decode cX3_leastOfEmpty 22 = .ok (.iload_n 2, 1) := by decide +kernel
theorem dX3_leastOfEmpty_23 : decode cX3_leastOfEmpty 23 = .ok (.iaload, 1) := by decide +kernel
theorem dX3_leastOfEmpty_24 : decode cX3_leastOfEmpty 24 = .ok (.aload_n 0, 1) := by decide +kernel
theorem dX3_leastOfEmpty_25 : decode cX3_leastOfEmpty 25 = .ok (.getfield 15, 3) := by decide +kernel
theorem dX3_leastOfEmpty_28 : decode cX3_leastOfEmpty 28 = .ok (.iload_n 1, 1) := by decide +kernel
theorem dX3_leastOfEmpty_29 : decode cX3_leastOfEmpty 29 = .ok (.iaload, 1) := by decide +kernel
theorem dX3_leastOfEmpty_30 : decode cX3_leastOfEmpty 30 = .ok (.if_icmp .ge 5, 3) := by decide +kernel
theorem dX3_leastOfEmpty_33 : decode cX3_leastOfEmpty 33 = .ok (.iload_n 2, 1) := by decide +kernel
theorem dX3_leastOfEmpty_34 : decode cX3_leastOfEmpty 34 = .ok (.istore_n 1, 1) := by decide +kernel
theorem dX3_leastOfEmpty_35 : decode cX3_leastOfEmpty 35 = .ok (.iinc 2 1, 3) := by decide +kernel
theorem dX3_leastOfEmpty_38 : decode cX3_leastOfEmpty 38 = .ok (.goto (-34), 3) := by decide +kernel
theorem dX3_leastOfEmpty_41 : decode cX3_leastOfEmpty 41 = .ok (.iload_n 1, 1) := by decide +kernel
theorem dX3_leastOfEmpty_42 : decode cX3_leastOfEmpty 42 = .ok (.ireturn, 1) := by decide +kernel
theorem dX3_dearestOfEmpty_0 : decode cX3_dearestOfEmpty 0 = .ok (.iconst 0, 1) := by decide +kernel
theorem dX3_dearestOfEmpty_1 : decode cX3_dearestOfEmpty 1 = .ok (.istore_n 2, 1) := by decide +kernel
theorem dX3_dearestOfEmpty_2 : decode cX3_dearestOfEmpty 2 = .ok (.iconst 1, 1) := by decide +kernel
theorem dX3_dearestOfEmpty_3 : decode cX3_dearestOfEmpty 3 = .ok (.istore_n 3, 1) := by decide +kernel
theorem dX3_dearestOfEmpty_4 : decode cX3_dearestOfEmpty 4 = .ok (.iload_n 3, 1) := by decide +kernel
theorem dX3_dearestOfEmpty_5 : decode cX3_dearestOfEmpty 5 = .ok (.bipush 8, 2) := by decide +kernel
theorem dX3_dearestOfEmpty_7 : decode cX3_dearestOfEmpty 7 = .ok (.if_icmp .ge 50, 3) := by decide +kernel
theorem dX3_dearestOfEmpty_10 : decode cX3_dearestOfEmpty 10 = .ok (.iload_n 3, 1) := by decide +kernel
theorem dX3_dearestOfEmpty_11 : decode cX3_dearestOfEmpty 11 = .ok (.aload_n 0, 1) := by decide +kernel
theorem dX3_dearestOfEmpty_12 : decode cX3_dearestOfEmpty 12 = .ok (.getfield 48, 3) := by decide +kernel
theorem dX3_dearestOfEmpty_15 : decode cX3_dearestOfEmpty 15 = .ok (.if_icmp .ge 42, 3) := by decide +kernel
theorem dX3_dearestOfEmpty_18 : decode cX3_dearestOfEmpty 18 = .ok (.aload_n 0, 1) := by decide +kernel
theorem dX3_dearestOfEmpty_19 : decode cX3_dearestOfEmpty 19 = .ok (.getfield 33, 3) := by decide +kernel
theorem dX3_dearestOfEmpty_22 : decode cX3_dearestOfEmpty 22 = .ok (.iload_n 1, 1) := by decide +kernel
theorem dX3_dearestOfEmpty_23 : decode cX3_dearestOfEmpty 23 = .ok (.aload_n 0, 1) := by decide +kernel
theorem dX3_dearestOfEmpty_24 : decode cX3_dearestOfEmpty 24 = .ok (.getfield 15, 3) := by decide +kernel
theorem dX3_dearestOfEmpty_27 : decode cX3_dearestOfEmpty 27 = .ok (.iload_n 3, 1) := by decide +kernel
theorem dX3_dearestOfEmpty_28 : decode cX3_dearestOfEmpty 28 = .ok (.iaload, 1) := by decide +kernel
theorem dX3_dearestOfEmpty_29 : decode cX3_dearestOfEmpty 29 = .ok (.invokevirtual 145, 3) := by decide +kernel
theorem dX3_dearestOfEmpty_32 : decode cX3_dearestOfEmpty 32 = .ok (.aload_n 0, 1) := by decide +kernel
theorem dX3_dearestOfEmpty_33 : decode cX3_dearestOfEmpty 33 = .ok (.getfield 33, 3) := by decide +kernel
theorem dX3_dearestOfEmpty_36 : decode cX3_dearestOfEmpty 36 = .ok (.iload_n 1, 1) := by decide +kernel
theorem dX3_dearestOfEmpty_37 : decode cX3_dearestOfEmpty 37 = .ok (.aload_n 0, 1) := by decide +kernel
theorem dX3_dearestOfEmpty_38 : decode cX3_dearestOfEmpty 38 = .ok (.getfield 15, 3) := by decide +kernel
theorem dX3_dearestOfEmpty_41 : decode cX3_dearestOfEmpty 41 = .ok (.iload_n 2, 1) := by decide +kernel
theorem dX3_dearestOfEmpty_42 : decode cX3_dearestOfEmpty 42 = .ok (.iaload, 1) := by decide +kernel
theorem dX3_dearestOfEmpty_43 : decode cX3_dearestOfEmpty 43 = .ok (.invokevirtual 145, 3) := by decide +kernel
theorem dX3_dearestOfEmpty_46 : decode cX3_dearestOfEmpty 46 = .ok (.if_icmp .lt 5, 3) := by decide +kernel
theorem dX3_dearestOfEmpty_49 : decode cX3_dearestOfEmpty 49 = .ok (.iload_n 3, 1) := by decide +kernel
theorem dX3_dearestOfEmpty_50 : decode cX3_dearestOfEmpty 50 = .ok (.istore_n 2, 1) := by decide +kernel
theorem dX3_dearestOfEmpty_51 : decode cX3_dearestOfEmpty 51 = .ok (.iinc 3 1, 3) := by decide +kernel
theorem dX3_dearestOfEmpty_54 : decode cX3_dearestOfEmpty 54 = .ok (.goto (-50), 3) := by decide +kernel
theorem dX3_dearestOfEmpty_57 : decode cX3_dearestOfEmpty 57 = .ok (.iload_n 2, 1) := by decide +kernel
theorem dX3_dearestOfEmpty_58 : decode cX3_dearestOfEmpty 58 = .ok (.ireturn, 1) := by decide +kernel
theorem dX3_takeFromEmpty_0 : decode cX3_takeFromEmpty 0 = .ok (.iload_n 1, 1) := by decide +kernel
theorem dX3_takeFromEmpty_1 : decode cX3_takeFromEmpty 1 = .ok (.ifCond .lt 17, 3) := by decide +kernel
theorem dX3_takeFromEmpty_4 : decode cX3_takeFromEmpty 4 = .ok (.iload_n 1, 1) := by decide +kernel
theorem dX3_takeFromEmpty_5 : decode cX3_takeFromEmpty 5 = .ok (.aload_n 0, 1) := by decide +kernel
theorem dX3_takeFromEmpty_6 : decode cX3_takeFromEmpty 6 = .ok (.getfield 48, 3) := by decide +kernel
theorem dX3_takeFromEmpty_9 : decode cX3_takeFromEmpty 9 = .ok (.if_icmp .ge 9, 3) := by decide +kernel
theorem dX3_takeFromEmpty_12 : decode cX3_takeFromEmpty 12 = .ok (.iload_n 1, 1) := by decide +kernel
theorem dX3_takeFromEmpty_13 : decode cX3_takeFromEmpty 13 = .ok (.bipush 8, 2) := by decide +kernel
theorem dX3_takeFromEmpty_15 : decode cX3_takeFromEmpty 15 = .ok (.if_icmp .lt 5, 3) := by decide +kernel
theorem dX3_takeFromEmpty_18 : decode cX3_takeFromEmpty 18 = .ok (.iconst (-1), 1) := by decide +kernel
theorem dX3_takeFromEmpty_19 : decode cX3_takeFromEmpty 19 = .ok (.ireturn, 1) := by decide +kernel
theorem dX3_takeFromEmpty_20 : decode cX3_takeFromEmpty 20 = .ok (.aload_n 0, 1) := by decide +kernel
theorem dX3_takeFromEmpty_21 : decode cX3_takeFromEmpty 21 = .ok (.getfield 15, 3) := by decide +kernel
theorem dX3_takeFromEmpty_24 : decode cX3_takeFromEmpty 24 = .ok (.iload_n 1, 1) := by decide +kernel
theorem dX3_takeFromEmpty_25 : decode cX3_takeFromEmpty 25 = .ok (.iaload, 1) := by decide +kernel
theorem dX3_takeFromEmpty_26 : decode cX3_takeFromEmpty 26 = .ok (.istore_n 2, 1) := by decide +kernel
theorem dX3_takeFromEmpty_27 : decode cX3_takeFromEmpty 27 = .ok (.iload_n 1, 1) := by decide +kernel
theorem dX3_takeFromEmpty_28 : decode cX3_takeFromEmpty 28 = .ok (.iconst 1, 1) := by decide +kernel
theorem dX3_takeFromEmpty_29 : decode cX3_takeFromEmpty 29 = .ok (.iadd, 1) := by decide +kernel
theorem dX3_takeFromEmpty_30 : decode cX3_takeFromEmpty 30 = .ok (.istore_n 3, 1) := by decide +kernel
theorem dX3_takeFromEmpty_31 : decode cX3_takeFromEmpty 31 = .ok (.iload_n 3, 1) := by decide +kernel
theorem dX3_takeFromEmpty_32 : decode cX3_takeFromEmpty 32 = .ok (.bipush 8, 2) := by decide +kernel
theorem dX3_takeFromEmpty_34 : decode cX3_takeFromEmpty 34 = .ok (.if_icmp .ge 31, 3) := by decide +kernel
theorem dX3_takeFromEmpty_37 : decode cX3_takeFromEmpty 37 = .ok (.iload_n 3, 1) := by decide +kernel
theorem dX3_takeFromEmpty_38 : decode cX3_takeFromEmpty 38 = .ok (.aload_n 0, 1) := by decide +kernel
theorem dX3_takeFromEmpty_39 : decode cX3_takeFromEmpty 39 = .ok (.getfield 48, 3) := by decide +kernel
theorem dX3_takeFromEmpty_42 : decode cX3_takeFromEmpty 42 = .ok (.if_icmp .ge 23, 3) := by decide +kernel
theorem dX3_takeFromEmpty_45 : decode cX3_takeFromEmpty 45 = .ok (.aload_n 0, 1) := by decide +kernel
theorem dX3_takeFromEmpty_46 : decode cX3_takeFromEmpty 46 = .ok (.getfield 15, 3) := by decide +kernel
theorem dX3_takeFromEmpty_49 : decode cX3_takeFromEmpty 49 = .ok (.iload_n 3, 1) := by decide +kernel
theorem dX3_takeFromEmpty_50 : decode cX3_takeFromEmpty 50 = .ok (.iconst 1, 1) := by decide +kernel
theorem dX3_takeFromEmpty_51 : decode cX3_takeFromEmpty 51 = .ok (.isub, 1) := by decide +kernel
theorem dX3_takeFromEmpty_52 : decode cX3_takeFromEmpty 52 = .ok (.aload_n 0, 1) := by decide +kernel
theorem dX3_takeFromEmpty_53 : decode cX3_takeFromEmpty 53 = .ok (.getfield 15, 3) := by decide +kernel
theorem dX3_takeFromEmpty_56 : decode cX3_takeFromEmpty 56 = .ok (.iload_n 3, 1) := by decide +kernel
theorem dX3_takeFromEmpty_57 : decode cX3_takeFromEmpty 57 = .ok (.iaload, 1) := by decide +kernel
theorem dX3_takeFromEmpty_58 : decode cX3_takeFromEmpty 58 = .ok (.iastore, 1) := by decide +kernel
theorem dX3_takeFromEmpty_59 : decode cX3_takeFromEmpty 59 = .ok (.iinc 3 1, 3) := by decide +kernel
theorem dX3_takeFromEmpty_62 : decode cX3_takeFromEmpty 62 = .ok (.goto (-31), 3) := by decide +kernel
theorem dX3_takeFromEmpty_65 : decode cX3_takeFromEmpty 65 = .ok (.aload_n 0, 1) := by decide +kernel
theorem dX3_takeFromEmpty_66 : decode cX3_takeFromEmpty 66 = .ok (.dup, 1) := by decide +kernel
theorem dX3_takeFromEmpty_67 : decode cX3_takeFromEmpty 67 = .ok (.getfield 48, 3) := by decide +kernel
theorem dX3_takeFromEmpty_70 : decode cX3_takeFromEmpty 70 = .ok (.iconst 1, 1) := by decide +kernel
theorem dX3_takeFromEmpty_71 : decode cX3_takeFromEmpty 71 = .ok (.isub, 1) := by decide +kernel
theorem dX3_takeFromEmpty_72 : decode cX3_takeFromEmpty 72 = .ok (.putfield 48, 3) := by decide +kernel
theorem dX3_takeFromEmpty_75 : decode cX3_takeFromEmpty 75 = .ok (.iload_n 2, 1) := by decide +kernel
theorem dX3_takeFromEmpty_76 : decode cX3_takeFromEmpty 76 = .ok (.ireturn, 1) := by decide +kernel
theorem dX3_occupy_0 : decode cX3_occupy 0 = .ok (.iload_n 1, 1) := by decide +kernel
theorem dX3_occupy_1 : decode cX3_occupy 1 = .ok (.ifCond .lt 9, 3) := by decide +kernel
theorem dX3_occupy_4 : decode cX3_occupy 4 = .ok (.iload_n 1, 1) := by decide +kernel
theorem dX3_occupy_5 : decode cX3_occupy 5 = .ok (.bipush 8, 2) := by decide +kernel
theorem dX3_occupy_7 : decode cX3_occupy 7 = .ok (.if_icmp .lt 4, 3) := by decide +kernel
theorem dX3_occupy_10 : decode cX3_occupy 10 = .ok (.return_, 1) := by decide +kernel
theorem dX3_occupy_11 : decode cX3_occupy 11 = .ok (.aload_n 0, 1) := by decide +kernel
theorem dX3_occupy_12 : decode cX3_occupy 12 = .ok (.getfield 9, 3) := by decide +kernel
theorem dX3_occupy_15 : decode cX3_occupy 15 = .ok (.iload_n 1, 1) := by decide +kernel
theorem dX3_occupy_16 : decode cX3_occupy 16 = .ok (.iload_n 2, 1) := by decide +kernel
theorem dX3_occupy_17 : decode cX3_occupy 17 = .ok (.iastore, 1) := by decide +kernel
theorem dX3_occupy_18 : decode cX3_occupy 18 = .ok (.aload_n 0, 1) := by decide +kernel
theorem dX3_occupy_19 : decode cX3_occupy 19 = .ok (.getfield 24, 3) := by decide +kernel
theorem dX3_occupy_22 : decode cX3_occupy 22 = .ok (.iload_n 1, 1) := by decide +kernel
theorem dX3_occupy_23 : decode cX3_occupy 23 = .ok (.dup2, 1) := by decide +kernel
theorem dX3_occupy_24 : decode cX3_occupy 24 = .ok (.iaload, 1) := by decide +kernel
theorem dX3_occupy_25 : decode cX3_occupy 25 = .ok (.iconst 1, 1) := by decide +kernel
theorem dX3_occupy_26 : decode cX3_occupy 26 = .ok (.iadd, 1) := by decide +kernel
theorem dX3_occupy_27 : decode cX3_occupy 27 = .ok (.iastore, 1) := by decide +kernel
theorem dX3_occupy_28 : decode cX3_occupy 28 = .ok (.aload_n 0, 1) := by decide +kernel
theorem dX3_occupy_29 : decode cX3_occupy 29 = .ok (.getfield 30, 3) := by decide +kernel
theorem dX3_occupy_32 : decode cX3_occupy 32 = .ok (.iload_n 1, 1) := by decide +kernel
theorem dX3_occupy_33 : decode cX3_occupy 33 = .ok (.iaload, 1) := by decide +kernel
theorem dX3_occupy_34 : decode cX3_occupy 34 = .ok (.iload_n 2, 1) := by decide +kernel
theorem dX3_occupy_35 : decode cX3_occupy 35 = .ok (.if_icmp .eq 13, 3) := by decide +kernel
theorem dX3_occupy_38 : decode cX3_occupy 38 = .ok (.aload_n 0, 1) := by decide +kernel
theorem dX3_occupy_39 : decode cX3_occupy 39 = .ok (.getfield 27, 3) := by decide +kernel
theorem dX3_occupy_42 : decode cX3_occupy 42 = .ok (.iload_n 1, 1) := by decide +kernel
theorem dX3_occupy_43 : decode cX3_occupy 43 = .ok (.dup2, 1) := by decide +kernel
theorem dX3_occupy_44 : decode cX3_occupy 44 = .ok (.iaload, 1) := by decide +kernel
theorem dX3_occupy_45 : decode cX3_occupy 45 = .ok (.iconst 1, 1) := by decide +kernel
theorem dX3_occupy_46 : decode cX3_occupy 46 = .ok (.iadd, 1) := by decide +kernel
theorem dX3_occupy_47 : decode cX3_occupy 47 = .ok (.iastore, 1) := by decide +kernel
theorem dX3_occupy_48 : decode cX3_occupy 48 = .ok (.aload_n 0, 1) := by decide +kernel
theorem dX3_occupy_49 : decode cX3_occupy 49 = .ok (.getfield 30, 3) := by decide +kernel
theorem dX3_occupy_52 : decode cX3_occupy 52 = .ok (.iload_n 1, 1) := by decide +kernel
theorem dX3_occupy_53 : decode cX3_occupy 53 = .ok (.iload_n 2, 1) := by decide +kernel
theorem dX3_occupy_54 : decode cX3_occupy 54 = .ok (.iastore, 1) := by decide +kernel
theorem dX3_occupy_55 : decode cX3_occupy 55 = .ok (.return_, 1) := by decide +kernel
theorem dX3_leaveEmpty_0 : decode cX3_leaveEmpty 0 = .ok (.iload_n 1, 1) := by decide +kernel
theorem dX3_leaveEmpty_1 : decode cX3_leaveEmpty 1 = .ok (.ifCond .lt 25, 3) := by decide +kernel
theorem dX3_leaveEmpty_4 : decode cX3_leaveEmpty 4 = .ok (.iload_n 1, 1) := by decide +kernel
theorem dX3_leaveEmpty_5 : decode cX3_leaveEmpty 5 = .ok (.bipush 8, 2) := by decide +kernel
theorem dX3_leaveEmpty_7 : decode cX3_leaveEmpty 7 = .ok (.if_icmp .ge 19, 3) := by decide +kernel
theorem dX3_leaveEmpty_10 : decode cX3_leaveEmpty 10 = .ok (.aload_n 0, 1) := by decide +kernel
theorem dX3_leaveEmpty_11 : decode cX3_leaveEmpty 11 = .ok (.getfield 48, 3) := by decide +kernel
theorem dX3_leaveEmpty_14 : decode cX3_leaveEmpty 14 = .ok (.ifCond .lt 12, 3) := by decide +kernel
theorem dX3_leaveEmpty_17 : decode cX3_leaveEmpty 17 = .ok (.aload_n 0, 1) := by decide +kernel
theorem dX3_leaveEmpty_18 : decode cX3_leaveEmpty 18 = .ok (.getfield 48, 3) := by decide +kernel
theorem dX3_leaveEmpty_21 : decode cX3_leaveEmpty 21 = .ok (.bipush 8, 2) := by decide +kernel
theorem dX3_leaveEmpty_23 : decode cX3_leaveEmpty 23 = .ok (.if_icmp .lt 4, 3) := by decide +kernel
theorem dX3_leaveEmpty_26 : decode cX3_leaveEmpty 26 = .ok (.return_, 1) := by decide +kernel
theorem dX3_leaveEmpty_27 : decode cX3_leaveEmpty 27 = .ok (.aload_n 0, 1) := by decide +kernel
theorem dX3_leaveEmpty_28 : decode cX3_leaveEmpty 28 = .ok (.getfield 9, 3) := by decide +kernel
theorem dX3_leaveEmpty_31 : decode cX3_leaveEmpty 31 = .ok (.iload_n 1, 1) := by decide +kernel
theorem dX3_leaveEmpty_32 : decode cX3_leaveEmpty 32 = .ok (.iconst (-1), 1) := by decide +kernel
theorem dX3_leaveEmpty_33 : decode cX3_leaveEmpty 33 = .ok (.iastore, 1) := by decide +kernel
theorem dX3_leaveEmpty_34 : decode cX3_leaveEmpty 34 = .ok (.aload_n 0, 1) := by decide +kernel
theorem dX3_leaveEmpty_35 : decode cX3_leaveEmpty 35 = .ok (.getfield 15, 3) := by decide +kernel
theorem dX3_leaveEmpty_38 : decode cX3_leaveEmpty 38 = .ok (.aload_n 0, 1) := by decide +kernel
theorem dX3_leaveEmpty_39 : decode cX3_leaveEmpty 39 = .ok (.getfield 48, 3) := by decide +kernel
theorem dX3_leaveEmpty_42 : decode cX3_leaveEmpty 42 = .ok (.iload_n 1, 1) := by decide +kernel
theorem dX3_leaveEmpty_43 : decode cX3_leaveEmpty 43 = .ok (.iastore, 1) := by decide +kernel
theorem dX3_leaveEmpty_44 : decode cX3_leaveEmpty 44 = .ok (.aload_n 0, 1) := by decide +kernel
theorem dX3_leaveEmpty_45 : decode cX3_leaveEmpty 45 = .ok (.dup, 1) := by decide +kernel
theorem dX3_leaveEmpty_46 : decode cX3_leaveEmpty 46 = .ok (.getfield 48, 3) := by decide +kernel
theorem dX3_leaveEmpty_49 : decode cX3_leaveEmpty 49 = .ok (.iconst 1, 1) := by decide +kernel
theorem dX3_leaveEmpty_50 : decode cX3_leaveEmpty 50 = .ok (.iadd, 1) := by decide +kernel
theorem dX3_leaveEmpty_51 : decode cX3_leaveEmpty 51 = .ok (.putfield 48, 3) := by decide +kernel
theorem dX3_leaveEmpty_54 : decode cX3_leaveEmpty 54 = .ok (.return_, 1) := by decide +kernel
theorem dX3_waitInYard_0 : decode cX3_waitInYard 0 = .ok (.aload_n 0, 1) := by decide +kernel
theorem dX3_waitInYard_1 : decode cX3_waitInYard 1 = .ok (.getfield 51, 3) := by decide +kernel
theorem dX3_waitInYard_4 : decode cX3_waitInYard 4 = .ok (.ifCond .lt 35, 3) := by decide +kernel
theorem dX3_waitInYard_7 : decode cX3_waitInYard 7 = .ok (.aload_n 0, 1) := by decide +kernel
theorem dX3_waitInYard_8 : decode cX3_waitInYard 8 = .ok (.getfield 51, 3) := by decide +kernel
theorem dX3_waitInYard_11 : decode cX3_waitInYard 11 = .ok (.aload_n 0, 1) := by decide +kernel
theorem dX3_waitInYard_12 : decode cX3_waitInYard 12 = .ok (.getfield 18, 3) := by decide +kernel
theorem dX3_waitInYard_15 : decode cX3_waitInYard 15 = .ok (.arraylength, 1) := by decide +kernel
theorem dX3_waitInYard_16 : decode cX3_waitInYard 16 = .ok (.if_icmp .ge 23, 3) := by decide +kernel
theorem dX3_waitInYard_19 : decode cX3_waitInYard 19 = .ok (.aload_n 0, 1) := by decide +kernel
theorem dX3_waitInYard_20 : decode cX3_waitInYard 20 = .ok (.getfield 18, 3) := by decide +kernel
theorem dX3_waitInYard_23 : decode cX3_waitInYard 23 = .ok (.aload_n 0, 1) := by decide +kernel
theorem dX3_waitInYard_24 : decode cX3_waitInYard 24 = .ok (.getfield 51, 3) := by decide +kernel
theorem dX3_waitInYard_27 : decode cX3_waitInYard 27 = .ok (.iload_n 1, 1) := by decide +kernel
theorem dX3_waitInYard_28 : decode cX3_waitInYard 28 = .ok (.iastore, 1) := by decide +kernel
theorem dX3_waitInYard_29 : decode cX3_waitInYard 29 = .ok (.aload_n 0, 1) := by decide +kernel
theorem dX3_waitInYard_30 : decode cX3_waitInYard 30 = .ok (.dup, 1) := by decide +kernel
theorem dX3_waitInYard_31 : decode cX3_waitInYard 31 = .ok (.getfield 51, 3) := by decide +kernel
theorem dX3_waitInYard_34 : decode cX3_waitInYard 34 = .ok (.iconst 1, 1) := by decide +kernel
theorem dX3_waitInYard_35 : decode cX3_waitInYard 35 = .ok (.iadd, 1) := by decide +kernel
theorem dX3_waitInYard_36 : decode cX3_waitInYard 36 = .ok (.putfield 51, 3) := by decide +kernel
theorem dX3_waitInYard_39 : decode cX3_waitInYard 39 = .ok (.return_, 1) := by decide +kernel
theorem dX3_leaveYard_0 : decode cX3_leaveYard 0 = .ok (.iconst 0, 1) := by decide +kernel
theorem dX3_leaveYard_1 : decode cX3_leaveYard 1 = .ok (.istore_n 2, 1) := by decide +kernel
theorem dX3_leaveYard_2 : decode cX3_leaveYard 2 = .ok (.iconst 0, 1) := by decide +kernel
theorem dX3_leaveYard_3 : decode cX3_leaveYard 3 = .ok (.istore_n 3, 1) := by decide +kernel
theorem dX3_leaveYard_4 : decode cX3_leaveYard 4 = .ok (.iconst 0, 1) := by decide +kernel
theorem dX3_leaveYard_5 : decode cX3_leaveYard 5 = .ok (.istore 4, 2) := by decide +kernel
theorem dX3_leaveYard_7 : decode cX3_leaveYard 7 = .ok (.iload 4, 2) := by decide +kernel
theorem dX3_leaveYard_9 : decode cX3_leaveYard 9 = .ok (.aload_n 0, 1) := by decide +kernel
theorem dX3_leaveYard_10 : decode cX3_leaveYard 10 = .ok (.getfield 18, 3) := by decide +kernel
theorem dX3_leaveYard_13 : decode cX3_leaveYard 13 = .ok (.arraylength, 1) := by decide +kernel
theorem dX3_leaveYard_14 : decode cX3_leaveYard 14 = .ok (.if_icmp .ge 54, 3) := by decide +kernel
theorem dX3_leaveYard_17 : decode cX3_leaveYard 17 = .ok (.iload 4, 2) := by decide +kernel
theorem dX3_leaveYard_19 : decode cX3_leaveYard 19 = .ok (.aload_n 0, 1) := by decide +kernel
theorem dX3_leaveYard_20 : decode cX3_leaveYard 20 = .ok (.getfield 51, 3) := by decide +kernel
theorem dX3_leaveYard_23 : decode cX3_leaveYard 23 = .ok (.if_icmp .ge 45, 3) := by decide +kernel
theorem dX3_leaveYard_26 : decode cX3_leaveYard 26 = .ok (.iload_n 3, 1) := by decide +kernel
theorem dX3_leaveYard_27 : decode cX3_leaveYard 27 = .ok (.ifCond .ne 19, 3) := by decide +kernel
theorem dX3_leaveYard_30 : decode cX3_leaveYard 30 = .ok (.aload_n 0, 1) := by decide +kernel
theorem dX3_leaveYard_31 : decode cX3_leaveYard 31 = .ok (.getfield 18, 3) := by decide +kernel
theorem dX3_leaveYard_34 : decode cX3_leaveYard 34 = .ok (.iload 4, 2) := by decide +kernel
theorem dX3_leaveYard_36 : decode cX3_leaveYard 36 = .ok (.iaload, 1) := by decide +kernel
theorem dX3_leaveYard_37 : decode cX3_leaveYard 37 = .ok (.iload_n 1, 1) := by decide +kernel
theorem dX3_leaveYard_38 : decode cX3_leaveYard 38 = .ok (.if_icmp .ne 8, 3) := by decide +kernel
theorem dX3_leaveYard_41 : decode cX3_leaveYard 41 = .ok (.iconst 1, 1) := by decide +kernel
theorem dX3_leaveYard_42 : decode cX3_leaveYard 42 = .ok (.istore_n 3, 1) := by decide +kernel
theorem dX3_leaveYard_43 : decode cX3_leaveYard 43 = .ok (.goto 19, 3) := by decide +kernel
theorem dX3_leaveYard_46 : decode cX3_leaveYard 46 = .ok (.aload_n 0, 1) := by decide +kernel
theorem dX3_leaveYard_47 : decode cX3_leaveYard 47 = .ok (.getfield 18, 3) := by decide +kernel
theorem dX3_leaveYard_50 : decode cX3_leaveYard 50 = .ok (.iload_n 2, 1) := by decide +kernel
theorem dX3_leaveYard_51 : decode cX3_leaveYard 51 = .ok (.aload_n 0, 1) := by decide +kernel
theorem dX3_leaveYard_52 : decode cX3_leaveYard 52 = .ok (.getfield 18, 3) := by decide +kernel
theorem dX3_leaveYard_55 : decode cX3_leaveYard 55 = .ok (.iload 4, 2) := by decide +kernel
theorem dX3_leaveYard_57 : decode cX3_leaveYard 57 = .ok (.iaload, 1) := by decide +kernel
theorem dX3_leaveYard_58 : decode cX3_leaveYard 58 = .ok (.iastore, 1) := by decide +kernel
theorem dX3_leaveYard_59 : decode cX3_leaveYard 59 = .ok (.iinc 2 1, 3) := by decide +kernel
theorem dX3_leaveYard_62 : decode cX3_leaveYard 62 = .ok (.iinc 4 1, 3) := by decide +kernel
theorem dX3_leaveYard_65 : decode cX3_leaveYard 65 = .ok (.goto (-58), 3) := by decide +kernel
theorem dX3_leaveYard_68 : decode cX3_leaveYard 68 = .ok (.aload_n 0, 1) := by decide +kernel
