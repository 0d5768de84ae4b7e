theorem dX0_init_0 : decode cX0_init 0 = .ok (.aload_n 0, 1) := by decide +kernel
theorem dX0_init_1 : decode cX0_init 1 = .ok (.invokespecial 3, 3) := by decide +kernel
theorem dX0_init_4 : decode cX0_init 4 = .ok (.aload_n 0, 1) := by decide +kernel
theorem dX0_init_5 : decode cX0_init 5 = .ok (.iconst 0, 1) := by decide +kernel
theorem dX0_init_6 : decode cX0_init 6 = .ok (.putfield 11, 3) := by decide +kernel
theorem dX0_init_9 : decode cX0_init 9 = .ok (.aload_n 0, 1) := by decide +kernel
theorem dX0_init_10 : decode cX0_init 10 = .ok (.iconst 0, 1) := by decide +kernel
theorem dX0_init_11 : decode cX0_init 11 = .ok (.putfield 15, 3) := by decide +kernel
theorem dX0_init_14 : decode cX0_init 14 = .ok (.aload_n 0, 1) := by decide +kernel
theorem dX0_init_15 : decode cX0_init 15 = .ok (.iconst 0, 1) := by decide +kernel
theorem dX0_init_16 : decode cX0_init 16 = .ok (.putfield 18, 3) := by decide +kernel
theorem dX0_init_19 : decode cX0_init 19 = .ok (.aload_n 0, 1) := by decide +kernel
theorem dX0_init_20 : decode cX0_init 20 = .ok (.iconst (-1), 1) := by decide +kernel
theorem dX0_init_21 : decode cX0_init 21 = .ok (.putfield 22, 3) := by decide +kernel
theorem dX0_init_24 : decode cX0_init 24 = .ok (.aload_n 0, 1) := by decide +kernel
theorem dX0_init_25 : decode cX0_init 25 = .ok (.iconst (-1), 1) := by decide +kernel
theorem dX0_init_26 : decode cX0_init 26 = .ok (.putfield 25, 3) := by decide +kernel
theorem dX0_init_29 : decode cX0_init 29 = .ok (.aload_n 0, 1) := by decide +kernel
theorem dX0_init_30 : decode cX0_init 30 = .ok (.iconst (-1), 1) := by decide +kernel
theorem dX0_init_31 : decode cX0_init 31 = .ok (.putfield 28, 3) := by decide +kernel
theorem dX0_init_34 : decode cX0_init 34 = .ok (.aload_n 0, 1) := by decide +kernel
theorem dX0_init_35 : decode cX0_init 35 = .ok (.iconst (-1), 1) := by decide +kernel
theorem dX0_init_36 : decode cX0_init 36 = .ok (.putfield 31, 3) := by decide +kernel
theorem dX0_init_39 : decode cX0_init 39 = .ok (.aload_n 0, 1) := by decide +kernel
theorem dX0_init_40 : decode cX0_init 40 = .ok (.iconst 0, 1) := by decide +kernel
theorem dX0_init_41 : decode cX0_init 41 = .ok (.putfield 34, 3) := by decide +kernel
theorem dX0_init_44 : decode cX0_init 44 = .ok (.aload_n 0, 1) := by decide +kernel
theorem dX0_init_45 : decode cX0_init 45 = .ok (.iload_n 1, 1) := by decide +kernel
theorem dX0_init_46 : decode cX0_init 46 = .ok (.putfield 37, 3) := by decide +kernel
theorem dX0_init_49 : decode cX0_init 49 = .ok (.aload_n 0, 1) := by decide +kernel
theorem dX0_init_50 : decode cX0_init 50 = .ok (.aload_n 2, 1) := by decide +kernel
theorem dX0_init_51 : decode cX0_init 51 = .ok (.putfield 40, 3) := by decide +kernel
theorem dX0_init_54 : decode cX0_init 54 = .ok (.aload_n 0, 1) := by decide +kernel
theorem dX0_init_55 : decode cX0_init 55 = .ok (.iload_n 3, 1) := by decide +kernel
theorem dX0_init_56 : decode cX0_init 56 = .ok (.putfield 44, 3) := by decide +kernel
theorem dX0_init_59 : decode cX0_init 59 = .ok (.aload_n 0, 1) := by decide +kernel
theorem dX0_init_60 : decode cX0_init 60 = .ok (.iload 4, 2) := by decide +kernel
theorem dX0_init_62 : decode cX0_init 62 = .ok (.putfield 47, 3) := by decide +kernel
theorem dX0_init_65 : decode cX0_init 65 = .ok (.aload_n 0, 1) := by decide +kernel
theorem dX0_init_66 : decode cX0_init 66 = .ok (.iload 5, 2) := by decide +kernel
theorem dX0_init_68 : decode cX0_init 68 = .ok (.putfield 50, 3) := by decide +kernel
theorem dX0_init_71 : decode cX0_init 71 = .ok (.aload_n 0, 1) := by decide +kernel
theorem dX0_init_72 : decode cX0_init 72 = .ok (.iload 6, 2) := by decide +kernel
theorem dX0_init_74 : decode cX0_init 74 = .ok (.putfield 53, 3) := by decide +kernel
theorem dX0_init_77 : decode cX0_init 77 = .ok (.aload_n 0, 1) := by decide +kernel
theorem dX0_init_78 : decode cX0_init 78 = .ok (.aload 7, 2) := by decide +kernel
theorem dX0_init_80 : decode cX0_init 80 = .ok (.putfield 56, 3) := by decide +kernel
theorem dX0_init_83 : decode cX0_init 83 = .ok (.return_, 1) := by decide +kernel
theorem dX0_twin_0 : decode cX0_twin 0 = .ok (.new 9, 3) := by decide +kernel
theorem dX0_twin_3 : decode cX0_twin 3 = .ok (.dup, 1) := by decide +kernel
theorem dX0_twin_4 : decode cX0_twin 4 = .ok (.aload_n 0, 1) := by decide +kernel
theorem dX0_twin_5 : decode cX0_twin 5 = .ok (.getfield 37, 3) := by decide +kernel
theorem dX0_twin_8 : decode cX0_twin 8 = .ok (.aload_n 0, 1) := by decide +kernel
theorem dX0_twin_9 : decode cX0_twin 9 = .ok (.getfield 40, 3) := by decide +kernel
theorem dX0_twin_12 : decode cX0_twin 12 = .ok (.aload_n 0, 1) := by decide +kernel
theorem dX0_twin_13 : decode cX0_twin 13 = .ok (.getfield 44, 3) := by decide +kernel
theorem dX0_twin_16 : decode cX0_twin 16 = .ok (.aload_n 0, 1) := by decide +kernel
theorem dX0_twin_17 : decode cX0_twin 17 = .ok (.getfield 47, 3) := by decide +kernel
theorem dX0_twin_20 : decode cX0_twin 20 = .ok (.aload_n 0, 1) := by decide +kernel
theorem dX0_twin_21 : decode cX0_twin 21 = .ok (.getfield 50, 3) := by decide +kernel
theorem dX0_twin_24 : decode cX0_twin 24 = .ok (.aload_n 0, 1) := by decide +kernel
theorem dX0_twin_25 : decode cX0_twin 25 = .ok (.getfield 53, 3) := by decide +kernel
theorem dX0_twin_28 : decode cX0_twin 28 = .ok (.aload_n 0, 1) := by decide +kernel
theorem dX0_twin_29 : decode cX0_twin 29 = .ok (.getfield 56, 3) := by decide +kernel
theorem dX0_twin_32 : decode cX0_twin 32 = .ok (.invokespecial 60, 3) := by decide +kernel
theorem dX0_twin_35 : decode cX0_twin 35 = .ok (.areturn, 1) := by decide +kernel
theorem dX0_copyFrom_0 : decode cX0_copyFrom 0 = .ok (.aload_n 0, 1) := by decide +kernel
theorem dX0_copyFrom_1 : decode cX0_copyFrom 1 = .ok (.aload_n 1, 1) := by decide +kernel
theorem dX0_copyFrom_2 : decode cX0_copyFrom 2 = .ok (.getfield 11, 3) := by decide +kernel
theorem dX0_copyFrom_5 : decode cX0_copyFrom 5 = .ok (.putfield 11, 3) := by decide +kernel
theorem dX0_copyFrom_8 : decode cX0_copyFrom 8 = .ok (.aload_n 0, 1) := by decide +kernel
theorem dX0_copyFrom_9 : decode cX0_copyFrom 9 = .ok (.aload_n 1, 1) := by decide +kernel
theorem dX0_copyFrom_10 : decode cX0_copyFrom 10 = .ok (.getfield 15, 3) := by decide +kernel
theorem dX0_copyFrom_13 : decode cX0_copyFrom 13 = .ok (.putfield 15, 3) := by decide +kernel
theorem dX0_copyFrom_16 : decode cX0_copyFrom 16 = .ok (.aload_n 0, 1) := by decide +kernel
theorem dX0_copyFrom_17 : decode cX0_copyFrom 17 = .ok (.aload_n 1, 1) := by decide +kernel
theorem dX0_copyFrom_18 : decode cX0_copyFrom 18 = .ok (.getfield 18, 3) := by decide +kernel
theorem dX0_copyFrom_21 : decode cX0_copyFrom 21 = .ok (.putfield 18, 3) := by decide +kernel
theorem dX0_copyFrom_24 : decode cX0_copyFrom 24 = .ok (.aload_n 0, 1) := by decide +kernel
theorem dX0_copyFrom_25 : decode cX0_copyFrom 25 = .ok (.aload_n 1, 1) := by decide +kernel
theorem dX0_copyFrom_26 : decode cX0_copyFrom 26 = .ok (.getfield 22, 3) := by decide +kernel
theorem dX0_copyFrom_29 : decode cX0_copyFrom 29 = .ok (.putfield 22, 3) := by decide +kernel
theorem dX0_copyFrom_32 : decode cX0_copyFrom 32 = .ok (.aload_n 0, 1) := by decide +kernel
theorem dX0_copyFrom_33 : decode cX0_copyFrom 33 = .ok (.aload_n 1, 1) := by decide +kernel
theorem dX0_copyFrom_34 : decode cX0_copyFrom 34 = .ok (.getfield 25, 3) := by decide +kernel
theorem dX0_copyFrom_37 : decode cX0_copyFrom 37 = .ok (.putfield 25, 3) := by decide +kernel
theorem dX0_copyFrom_40 : decode cX0_copyFrom 40 = .ok (.aload_n 0, 1) := by decide +kernel
theorem dX0_copyFrom_41 : decode cX0_copyFrom 41 = .ok (.aload_n 1, 1) := by decide +kernel
theorem dX0_copyFrom_42 : decode cX0_copyFrom 42 = .ok (.getfield 28, 3) := by decide +kernel
theorem dX0_copyFrom_45 : decode cX0_copyFrom 45 = .ok (.putfield 28, 3) := by decide +kernel
theorem dX0_copyFrom_48 : decode cX0_copyFrom 48 = .ok (.aload_n 0, 1) := by decide +kernel
theorem dX0_copyFrom_49 : decode cX0_copyFrom 49 = .ok (.aload_n 1, 1) := by decide +kernel
theorem dX0_copyFrom_50 : decode cX0_copyFrom 50 = .ok (.getfield 31, 3) := by decide +kernel
theorem dX0_copyFrom_53 : decode cX0_copyFrom 53 = .ok (.putfield 31, 3) := by decide +kernel
theorem dX0_copyFrom_56 : decode cX0_copyFrom 56 = .ok (.aload_n 0, 1) := by decide +kernel
theorem dX0_copyFrom_57 : decode cX0_copyFrom 57 = .ok (.aload_n 1, 1) := by decide +kernel
theorem dX0_copyFrom_58 : decode cX0_copyFrom 58 = .ok (.getfield 34, 3) := by decide +kernel
theorem dX0_copyFrom_61 : decode cX0_copyFrom 61 = .ok (.putfield 34, 3) := by decide +kernel
theorem dX0_copyFrom_64 : decode cX0_copyFrom 64 = .ok (.return_, 1) := by decide +kernel
theorem dX0_lackingItems_0 : decode cX0_lackingItems 0 = .ok (.aload_n 0, 1) := by decide +kernel
theorem dX0_lackingItems_1 : decode cX0_lackingItems 1 = .ok (.getfield 56, 3) := by decide +kernel
theorem dX0_lackingItems_4 : decode cX0_lackingItems 4 = .ok (.getfield 63, 3) := by decide +kernel
theorem dX0_lackingItems_7 : decode cX0_lackingItems 7 = .ok (.aload_n 0, 1) := by decide +kernel
theorem dX0_lackingItems_8 : decode cX0_lackingItems 8 = .ok (.getfield 15, 3) := by decide +kernel
theorem dX0_lackingItems_11 : decode cX0_lackingItems 11 = .ok (.iconst (-1), 1) := by decide +kernel
theorem dX0_lackingItems_12 : decode cX0_lackingItems 12 = .ok (.ixor, 1) := by decide +kernel
theorem dX0_lackingItems_13 : decode cX0_lackingItems 13 = .ok (.iand, 1) := by decide +kernel
theorem dX0_lackingItems_14 : decode cX0_lackingItems 14 = .ok (.ireturn, 1) := by decide +kernel
theorem dX0_gaveTicket_0 : decode cX0_gaveTicket 0 = .ok (.aload_n 0, 1) := by decide +kernel
theorem dX0_gaveTicket_1 : decode cX0_gaveTicket 1 = .ok (.getfield 15, 3) := by decide +kernel
theorem dX0_gaveTicket_4 : decode cX0_gaveTicket 4 = .ok (.bipush 64, 2) := by decide +kernel
theorem dX0_gaveTicket_6 : decode cX0_gaveTicket 6 = .ok (.iand, 1) := by decide +kernel
theorem dX0_gaveTicket_7 : decode cX0_gaveTicket 7 = .ok (.ifCond .eq 7, 3) := by decide +kernel
theorem dX0_gaveTicket_10 : decode cX0_gaveTicket 10 = .ok (.iconst 1, 1) := by decide +kernel
theorem dX0_gaveTicket_11 : decode cX0_gaveTicket 11 = .ok (.goto 4, 3) := by decide +kernel
theorem dX0_gaveTicket_14 : decode cX0_gaveTicket 14 = .ok (.iconst 0, 1) := by decide +kernel
theorem dX0_gaveTicket_15 : decode cX0_gaveTicket 15 = .ok (.ireturn, 1) := by decide +kernel
theorem dX0_isOpen_0 : decode cX0_isOpen 0 = .ok (.aload_n 0, 1) := by decide +kernel
theorem dX0_isOpen_1 : decode cX0_isOpen 1 = .ok (.getfield 11, 3) := by decide +kernel
theorem dX0_isOpen_4 : decode cX0_isOpen 4 = .ok (.iconst 5, 1) := by decide +kernel
theorem dX0_isOpen_5 : decode cX0_isOpen 5 = .ok (.if_icmp .gt 7, 3) := by decide +kernel
theorem dX0_isOpen_8 : decode cX0_isOpen 8 = .ok (.iconst 1, 1) := by decide +kernel
theorem dX0_isOpen_9 : decode cX0_isOpen 9 = .ok (.goto 4, 3) := by decide +kernel
theorem dX0_isOpen_12 : decode cX0_isOpen 12 = .ok (.iconst 0, 1) := by decide +kernel
theorem dX0_isOpen_13 : decode cX0_isOpen 13 = .ok (.ireturn, 1) := by decide +kernel
theorem dX0_isGotInTime_0 : decode cX0_isGotInTime 0 = .ok (.aload_n 0, 1) := by decide +kernel
theorem dX0_isGotInTime_1 : decode cX0_isGotInTime 1 = .ok (.getfield 11, 3) := by decide +kernel
theorem dX0_isGotInTime_4 : decode cX0_isGotInTime 4 = .ok (.bipush 7, 2) := by decide +kernel
theorem dX0_isGotInTime_6 : decode cX0_isGotInTime 6 = .ok (.if_icmp .ne 18, 3) := by decide +kernel
theorem dX0_isGotInTime_9 : decode cX0_isGotInTime 9 = .ok (.aload_n 0, 1) := by decide +kernel
theorem dX0_isGotInTime_10 : decode cX0_isGotInTime 10 = .ok (.getfield 28, 3) := by decide +kernel
theorem dX0_isGotInTime_13 : decode cX0_isGotInTime 13 = .ok (.aload_n 0, 1) := by decide +kernel
theorem dX0_isGotInTime_14 : decode cX0_isGotInTime 14 = .ok (.getfield 50, 3) := by decide +kernel
theorem dX0_isGotInTime_17 : decode cX0_isGotInTime 17 = .ok (.if_icmp .gt 7, 3) := by decide +kernel
theorem dX0_isGotInTime_20 : decode cX0_isGotInTime 20 = .ok (.iconst 1, 1) := by decide +kernel
theorem dX0_isGotInTime_21 : decode cX0_isGotInTime 21 = .ok (.goto 4, 3) := by decide +kernel
theorem dX0_isGotInTime_24 : decode cX0_isGotInTime 24 = .ok (.iconst 0, 1) := by decide +kernel
theorem dX0_isGotInTime_25 : decode cX0_isGotInTime 25 = .ok (.ireturn, 1) := by decide +kernel
theorem dX0_waitedDays_0 : decode cX0_waitedDays 0 = .ok (.aload_n 0, 1) := by decide +kernel
theorem dX0_waitedDays_1 : decode cX0_waitedDays 1 = .ok (.getfield 28, 3) := by decide +kernel
theorem dX0_waitedDays_4 : decode cX0_waitedDays 4 = .ok (.aload_n 0, 1) := by decide +kernel
theorem dX0_waitedDays_5 : decode cX0_waitedDays 5 = .ok (.getfield 47, 3) := by decide +kernel
theorem dX0_waitedDays_8 : decode cX0_waitedDays 8 = .ok (.isub, 1) := by decide +kernel
theorem dX0_waitedDays_9 : decode cX0_waitedDays 9 = .ok (.ireturn, 1) := by decide +kernel
theorem dX1_init_0 : decode cX1_init 0 = .ok (.aload_n 0, 1) := by decide +kernel
theorem dX1_init_1 : decode cX1_init 1 = .ok (.invokespecial 3, 3) := by decide +kernel
theorem dX1_init_4 : decode cX1_init 4 = .ok (.aload_n 0, 1) := by decide +kernel
theorem dX1_init_5 : decode cX1_init 5 = .ok (.iconst (-1), 1) := by decide +kernel
theorem dX1_init_6 : decode cX1_init 6 = .ok (.putfield 9, 3) := by decide +kernel
theorem dX1_init_9 : decode cX1_init 9 = .ok (.aload_n 0, 1) := by decide +kernel
theorem dX1_init_10 : decode cX1_init 10 = .ok (.iconst 0, 1) := by decide +kernel
theorem dX1_init_11 : decode cX1_init 11 = .ok (.putfield 15, 3) := by decide +kernel
theorem dX1_init_14 : decode cX1_init 14 = .ok (.aload_n 0, 1) := by decide +kernel
theorem dX1_init_15 : decode cX1_init 15 = .ok (.iconst 0, 1) := by decide +kernel
theorem dX1_init_16 : decode cX1_init 16 = .ok (.putfield 18, 3) := by decide +kernel
theorem dX1_init_19 : decode cX1_init 19 = .ok (.aload_n 0, 1) := by decide +kernel
theorem dX1_init_20 : decode cX1_init 20 = .ok (.iconst (-1), 1) := by decide +kernel
theorem dX1_init_21 : decode cX1_init 21 = .ok (.putfield 21, 3) := by decide +kernel
theorem dX1_init_24 : decode cX1_init 24 = .ok (.return_, 1) := by decide +kernel
theorem dX1_isValidOn_0 : decode cX1_isValidOn 0 = .ok (.aload_n 0, 1) := by decide +kernel
theorem dX1_isValidOn_1 : decode cX1_isValidOn 1 = .ok (.getfield 15, 3) := by decide +kernel
theorem dX1_isValidOn_4 : decode cX1_isValidOn 4 = .ok (.iload_n 1, 1) := by decide +kernel
theorem dX1_isValidOn_5 : decode cX1_isValidOn 5 = .ok (.if_icmp .gt 15, 3) := by decide +kernel
theorem dX1_isValidOn_8 : decode cX1_isValidOn 8 = .ok (.iload_n 1, 1) := by decide +kernel
theorem dX1_isValidOn_9 : decode cX1_isValidOn 9 = .ok (.aload_n 0, 1) := by decide +kernel
theorem dX1_isValidOn_10 : decode cX1_isValidOn 10 = .ok (.getfield 18, 3) := by decide +kernel
theorem dX1_isValidOn_13 : decode cX1_isValidOn 13 = .ok (.if_icmp .ge 7, 3) := by decide +kernel
theorem dX1_isValidOn_16 : decode cX1_isValidOn 16 = .ok (.iconst 1, 1) := by decide +kernel
theorem dX1_isValidOn_17 : decode cX1_isValidOn 17 = .ok (.goto 4, 3) := by decide +kernel
theorem dX1_isValidOn_20 : decode cX1_isValidOn 20 = .ok (.iconst 0, 1) := by decide +kernel
theorem dX1_isValidOn_21 : decode cX1_isValidOn 21 = .ok (.ireturn, 1) := by decide +kernel
theorem dX1_copyFrom_0 : decode cX1_copyFrom 0 = .ok (.aload_n 0, 1) := by decide +kernel
theorem dX1_copyFrom_1 : decode cX1_copyFrom 1 = .ok (.aload_n 1, 1) := by decide +kernel
theorem dX1_copyFrom_2 : decode cX1_copyFrom 2 = .ok (.getfield 9, 3) := by decide +kernel
theorem dX1_copyFrom_5 : decode cX1_copyFrom 5 = .ok (.putfield 9, 3) := by decide +kernel
theorem dX1_copyFrom_8 : decode cX1_copyFrom 8 = .ok (.aload_n 0, 1) := by decide +kernel
theorem dX1_copyFrom_9 : decode cX1_copyFrom 9 = .ok (.aload_n 1, 1) := by decide +kernel
theorem dX1_copyFrom_10 : decode cX1_copyFrom 10 = .ok (.getfield 15, 3) := by decide +kernel
theorem dX1_copyFrom_13 : decode cX1_copyFrom 13 = .ok (.putfield 15, 3) := by decide +kernel
theorem dX1_copyFrom_16 : decode cX1_copyFrom 16 = .ok (.aload_n 0, 1) := by decide +kernel
theorem dX1_copyFrom_17 : decode cX1_copyFrom 17 = .ok (.aload_n 1, 1) := by decide +kernel
theorem dX1_copyFrom_18 : decode cX1_copyFrom 18 = .ok (.getfield 18, 3) := by decide +kernel
theorem dX1_copyFrom_21 : decode cX1_copyFrom 21 = .ok (.putfield 18, 3) := by decide +kernel
theorem dX1_copyFrom_24 : decode cX1_copyFrom 24 = .ok (.aload_n 0, 1) := by decide +kernel
theorem dX1_copyFrom_25 : decode cX1_copyFrom 25 = .ok (.aload_n 1, 1) := by decide +kernel
theorem dX1_copyFrom_26 : decode cX1_copyFrom 26 = .ok (.getfield 21, 3) := by decide +kernel
theorem dX1_copyFrom_29 : decode cX1_copyFrom 29 = .ok (.putfield 21, 3) := by decide +kernel
theorem dX1_copyFrom_32 : decode cX1_copyFrom 32 = .ok (.return_, 1) := by decide +kernel
theorem dX2_init_0 : decode cX2_init 0 = .ok (.aload_n 0, 1) := by decide +kernel
theorem dX2_init_1 : decode cX2_init 1 = .ok (.invokespecial 1, 3) := by decide +kernel
theorem dX2_init_4 : decode cX2_init 4 = .ok (.aload_n 0, 1) := by decide +kernel
theorem dX2_init_5 : decode cX2_init 5 = .ok (.new 7, 3) := by decide +kernel
theorem dX2_init_8 : decode cX2_init 8 = .ok (.dup, 1) := by decide +kernel
theorem dX2_init_9 : decode cX2_init 9 = .ok (.invokespecial 9, 3) := by decide +kernel
theorem dX2_init_12 : decode cX2_init 12 = .ok (.putfield 10, 3) := by decide +kernel
theorem dX2_init_15 : decode cX2_init 15 = .ok (.aload_n 0, 1) := by decide +kernel
theorem dX2_init_16 : decode cX2_init 16 = .ok (.iconst 4, 1) := by decide +kernel
theorem dX2_init_17 : decode cX2_init 17 = .ok (.newarray .int, 2) := by decide +kernel
theorem dX2_init_19 : decode cX2_init 19 = .ok (.dup, 1) := by decide +kernel
theorem dX2_init_20 : decode cX2_init 20 = .ok (.iconst 0, 1) := by decide +kernel
theorem dX2_init_21 : decode cX2_init 21 = .ok (.iconst 1, 1) := by decide +kernel
theorem dX2_init_22 : decode cX2_init 22 = .ok (.iastore, 1) := by decide +kernel
theorem dX2_init_23 : decode cX2_init 23 = .ok (.dup, 1) := by decide +kernel
theorem dX2_init_24 : decode cX2_init 24 = .ok (.iconst 1, 1) := by decide +kernel
theorem dX2_init_25 : decode cX2_init 25 = .ok (.iconst 1, 1) := by decide +kernel
theorem dX2_init_26 : decode cX2_init 26 = .ok (.iastore, 1) := by decide +kernel
theorem dX2_init_27 : decode cX2_init 27 = .ok (.dup, 1) := by decide +kernel
theorem dX2_init_28 : decode cX2_init 28 = .ok (.iconst 2, 1) := by decide +kernel
theorem dX2_init_29 : decode cX2_init 29 = .ok (.iconst 1, 1) := by decide +kernel
theorem dX2_init_30 : decode cX2_init 30 = .ok (.iastore, 1) := by decide +kernel
theorem dX2_init_31 : decode cX2_init 31 = .ok (.dup, 1) := by decide +kernel
theorem dX2_init_32 : decode cX2_init 32 = .ok (.iconst 3, 1) := by decide +kernel
theorem dX2_init_33 : decode cX2_init 33 = .ok (.iconst 1, 1) := by decide +kernel
theorem dX2_init_34 : decode cX2_init 34 = .ok (.iastore, 1) := by decide +kernel
theorem dX2_init_35 : decode cX2_init 35 = .ok (.putfield 16, 3) := by decide +kernel
theorem dX2_init_38 : decode cX2_init 38 = .ok (.return_, 1) := by decide +kernel
theorem dX2_setHands_0 : decode cX2_setHands 0 = .ok (.iload_n 1, 1) := by decide +kernel
theorem dX2_setHands_1 : decode cX2_setHands 1 = .ok (.ifCond .lt 15, 3) := by decide +kernel
theorem dX2_setHands_4 : decode cX2_setHands 4 = .ok (.iload_n 1, 1) := by decide +kernel
theorem dX2_setHands_5 : decode cX2_setHands 5 = .ok (.iconst 4, 1) := by decide +kernel
theorem dX2_setHands_6 : decode cX2_setHands 6 = .ok (.if_icmp .ge 10, 3) := by decide +kernel
theorem dX2_setHands_9 : decode cX2_setHands 9 = .ok (.aload_n 0, 1) := by decide +kernel
theorem dX2_setHands_10 : decode cX2_setHands 10 = .ok (.getfield 16, 3) := by decide +kernel
theorem dX2_setHands_13 : decode cX2_setHands 13 = .ok (.iload_n 1, 1) := by decide +kernel
theorem dX2_setHands_14 : decode cX2_setHands 14 = .ok (.iload_n 2, 1) := by decide +kernel
theorem dX2_setHands_15 : decode cX2_setHands 15 = .ok (.iastore, 1) := by decide +kernel
theorem dX2_setHands_16 : decode cX2_setHands 16 = .ok (.return_, 1) := by decide +kernel
theorem dX2_unitsOn_0 : decode cX2_unitsOn 0 = .ok (.iload_n 1, 1) := by decide +kernel
theorem dX2_unitsOn_1 : decode cX2_unitsOn 1 = .ok (.ifCond .lt 8, 3) := by decide +kernel
theorem dX2_unitsOn_4 : decode cX2_unitsOn 4 = .ok (.iload_n 1, 1) := by decide +kernel
theorem dX2_unitsOn_5 : decode cX2_unitsOn 5 = .ok (.iconst 4, 1) := by decide +kernel
theorem dX2_unitsOn_6 : decode cX2_unitsOn 6 = .ok (.if_icmp .lt 5, 3) := by decide +kernel
theorem dX2_unitsOn_9 : decode cX2_unitsOn 9 = .ok (.iconst 0, 1) := by decide +kernel
theorem dX2_unitsOn_10 : decode cX2_unitsOn 10 = .ok (.ireturn, 1) := by decide +kernel
theorem dX2_unitsOn_11 : decode cX2_unitsOn 11 = .ok (.aload_n 0, 1) := by decide +kernel
theorem dX2_unitsOn_12 : decode cX2_unitsOn 12 = .ok (.getfield 16, 3) := by decide +kernel
theorem dX2_unitsOn_15 : decode cX2_unitsOn 15 = .ok (.iload_n 1, 1) := by decide +kernel
theorem dX2_unitsOn_16 : decode cX2_unitsOn 16 = .ok (.iaload, 1) := by decide +kernel
theorem dX2_unitsOn_17 : decode cX2_unitsOn 17 = .ok (.bipush 8, 2) := by decide +kernel
theorem dX2_unitsOn_19 : decode cX2_unitsOn 19 = .ok (.imul, 1) := by decide +kernel
theorem dX2_unitsOn_20 : decode cX2_unitsOn 20 = .ok (.istore_n 3, 1) := by decide +kernel
theorem dX2_unitsOn_21 : decode cX2_unitsOn 21 = .ok (.iconst 0, 1) := by decide +kernel
theorem dX2_unitsOn_22 : decode cX2_unitsOn 22 = .ok (.istore 4, 2) := by decide +kernel
theorem dX2_unitsOn_24 : decode cX2_unitsOn 24 = .ok (.iload 4, 2) := by decide +kernel
theorem dX2_unitsOn_26 : decode cX2_unitsOn 26 = .ok (.aload_n 0, 1) := by decide +kernel
theorem dX2_unitsOn_27 : decode cX2_unitsOn 27 = .ok (.getfield 10, 3) := by decide +kernel
theorem dX2_unitsOn_30 : decode cX2_unitsOn 30 = .ok (.invokevirtual 20, 3) := by decide +kernel
theorem dX2_unitsOn_33 : decode cX2_unitsOn 33 = .ok (.if_icmp .ge 41, 3) := by decide +kernel
theorem dX2_unitsOn_36 : decode cX2_unitsOn 36 = .ok (.aload_n 0, 1) := by decide +kernel
theorem dX2_unitsOn_37 : decode cX2_unitsOn 37 = .ok (.getfield 10, 3) := by decide +kernel
theorem dX2_unitsOn_40 : decode cX2_unitsOn 40 = .ok (.iload 4, 2) := by decide +kernel
theorem dX2_unitsOn_42 : decode cX2_unitsOn 42 = .ok (.invokevirtual 24, 3) := by decide +kernel
theorem dX2_unitsOn_45 : decode cX2_unitsOn 45 = .ok (.checkcast 28, 3) := by decide +kernel
theorem dX2_unitsOn_48 : decode cX2_unitsOn 48 = .ok (.astore 5, 2) := by decide +kernel
theorem dX2_unitsOn_50 : decode cX2_unitsOn 50 = .ok (.aload 5, 2) := by decide +kernel
theorem dX2_unitsOn_52 : decode cX2_unitsOn 52 = .ok (.getfield 30, 3) := by decide +kernel
theorem dX2_unitsOn_55 : decode cX2_unitsOn 55 = .ok (.iload_n 1, 1) := by decide +kernel
theorem dX2_unitsOn_56 : decode cX2_unitsOn 56 = .ok (.if_icmp .ne 12, 3) := by decide +kernel
theorem dX2_unitsOn_59 : decode cX2_unitsOn 59 = .ok (.iload_n 3, 1) := by decide +kernel
theorem dX2_unitsOn_60 : decode cX2_unitsOn 60 = .ok (.aload 5, 2) := by decide +kernel
theorem dX2_unitsOn_62 : decode cX2_unitsOn 62 = .ok (.iload_n 2, 1) := by decide +kernel
theorem dX2_unitsOn_63 : decode cX2_unitsOn 63 = .ok (.invokevirtual 34, 3) := by decide +kernel
theorem dX2_unitsOn_66 : decode cX2_unitsOn 66 = .ok (.iadd, 1) := by decide +kernel
theorem dX2_unitsOn_67 : decode cX2_unitsOn 67 = .ok (.istore_n 3, 1) := by decide +kernel
theorem dX2_unitsOn_68 : decode cX2_unitsOn 68 = .ok (.iinc 4 1, 3) := by decide +kernel
theorem dX2_unitsOn_71 : decode cX2_unitsOn 71 = .ok (.goto (-47), 3) := by decide +kernel
theorem dX2_unitsOn_74 : decode cX2_unitsOn 74 = .ok (.iconst 0, 1) := by decide +kernel
theorem dX2_unitsOn_75 : decode cX2_unitsOn 75 = .ok (.iload_n 3, 1) := by decide +kernel
theorem dX2_unitsOn_76 : decode cX2_unitsOn 76 = .ok (.invokestatic 38, 3) := by decide +kernel
theorem dX2_unitsOn_79 : decode cX2_unitsOn 79 = .ok (.ireturn, 1) := by decide +kernel
theorem dX3_init_0 : decode cX3_init 0 = .ok (.aload_n 0, 1) := by decide +kernel
theorem dX3_init_1 : decode cX3_init 1 = .ok (.invokespecial 3, 3) := by decide +kernel
theorem dX3_init_4 : decode cX3_init 4 = .ok (.aload_n 0, 1) := by decide +kernel
theorem dX3_init_5 : decode cX3_init 5 = .ok (.iconst 0, 1) := by decide +kernel
theorem dX3_init_6 : decode cX3_init 6 = .ok (.putfield 9, 3) := by decide +kernel
theorem dX3_init_9 : decode cX3_init 9 = .ok (.aload_n 0, 1) := by decide +kernel
theorem dX3_init_10 : decode cX3_init 10 = .ok (.iconst (-1), 1) := by decide +kernel
theorem dX3_init_11 : decode cX3_init 11 = .ok (.putfield 15, 3) := by decide +kernel
theorem dX3_init_14 : decode cX3_init 14 = .ok (.aload_n 0, 1) := by decide +kernel
theorem dX3_init_15 : decode cX3_init 15 = .ok (.bipush 9, 2) := by decide +kernel
theorem dX3_init_17 : decode cX3_init 17 = .ok (.newarray .int, 2) := by decide +kernel
theorem dX3_init_19 : decode cX3_init 19 = .ok (.putfield 18, 3) := by decide +kernel
theorem dX3_init_22 : decode cX3_init 22 = .ok (.aload_n 0, 1) := by decide +kernel
theorem dX3_init_23 : decode cX3_init 23 = .ok (.new 22, 3) := by decide +kernel
theorem dX3_init_26 : decode cX3_init 26 = .ok (.dup, 1) := by decide +kernel
theorem dX3_init_27 : decode cX3_init 27 = .ok (.invokespecial 24, 3) := by decide +kernel
theorem dX3_init_30 : decode cX3_init 30 = .ok (.putfield 25, 3) := by decide +kernel
theorem dX3_init_33 : decode cX3_init 33 = .ok (.aload_n 0, 1) := by decide +kernel
theorem dX3_init_34 : decode cX3_init 34 = .ok (.iconst 0, 1) := by decide +kernel
theorem dX3_init_35 : decode cX3_init 35 = .ok (.putfield 29, 3) := by decide +kernel
theorem dX3_init_38 : decode cX3_init 38 = .ok (.aload_n 0, 1) := by decide +kernel
theorem dX3_init_39 : decode cX3_init 39 = .ok (.iconst 0, 1) := by decide +kernel
theorem dX3_init_40 : decode cX3_init 40 = .ok (.putfield 32, 3) := by decide +kernel
theorem dX3_init_43 : decode cX3_init 43 = .ok (.aload_n 0, 1) := by decide +kernel
theorem dX3_init_44 : decode cX3_init 44 = .ok (.iconst 0, 1) := by decide +kernel
theorem dX3_init_45 : decode cX3_init 45 = .ok (.putfield 35, 3) := by decide +kernel
theorem dX3_init_48 : decode cX3_init 48 = .ok (.aload_n 0, 1) := by decide +kernel
theorem dX3_init_49 : decode cX3_init 49 = .ok (.iload_n 1, 1) := by decide +kernel
theorem dX3_init_50 : decode cX3_init 50 = .ok (.putfield 38, 3) := by decide +kernel
theorem dX3_init_53 : decode cX3_init 53 = .ok (.aload_n 0, 1) := by decide +kernel
theorem dX3_init_54 : decode cX3_init 54 = .ok (.aload_n 2, 1) := by decide +kernel
theorem dX3_init_55 : decode cX3_init 55 = .ok (.putfield 41, 3) := by decide +kernel
theorem dX3_init_58 : decode cX3_init 58 = .ok (.return_, 1) := by decide +kernel
theorem dX3_verdictOn_0 : decode cX3_verdictOn 0 = .ok (.aload_n 0, 1) := by decide +kernel
theorem dX3_verdictOn_1 : decode cX3_verdictOn 1 = .ok (.aload_n 1, 1) := by decide +kernel
theorem dX3_verdictOn_2 : decode cX3_verdictOn 2 = .ok (.putfield 18, 3) := by decide +kernel
theorem dX3_verdictOn_5 : decode cX3_verdictOn 5 = .ok (.aload_n 0, 1) := by decide +kernel
theorem dX3_verdictOn_6 : decode cX3_verdictOn 6 = .ok (.new 22, 3) := by decide +kernel
theorem dX3_verdictOn_9 : decode cX3_verdictOn 9 = .ok (.dup, 1) := by decide +kernel
theorem dX3_verdictOn_10 : decode cX3_verdictOn 10 = .ok (.invokespecial 24, 3) := by decide +kernel
theorem dX3_verdictOn_13 : decode cX3_verdictOn 13 = .ok (.putfield 25, 3) := by decide +kernel
theorem dX3_verdictOn_16 : decode cX3_verdictOn 16 = .ok (.aload_n 0, 1) := by decide +kernel
theorem dX3_verdictOn_17 : decode cX3_verdictOn 17 = .ok (.iconst 0, 1) := by decide +kernel
theorem dX3_verdictOn_18 : decode cX3_verdictOn 18 = .ok (.putfield 9, 3) := by decide +kernel
theorem dX3_verdictOn_21 : decode cX3_verdictOn 21 = .ok (.aload_n 0, 1) := by decide +kernel
theorem dX3_verdictOn_22 : decode cX3_verdictOn 22 = .ok (.iconst (-1), 1) := by decide +kernel
theorem dX3_verdictOn_23 : decode cX3_verdictOn 23 = .ok (.putfield 15, 3) := by decide +kernel
theorem dX3_verdictOn_26 : decode cX3_verdictOn 26 = .ok (.aload_n 0, 1) := by decide +kernel
theorem dX3_verdictOn_27 : decode cX3_verdictOn 27 = .ok (.iconst 0, 1) := by decide +kernel
theorem dX3_verdictOn_28 : decode cX3_verdictOn 28 = .ok (.putfield 35, 3) := by decide +kernel
theorem dX3_verdictOn_31 : decode cX3_verdictOn 31 = .ok (.aload_n 0, 1) := by decide +kernel
theorem dX3_verdictOn_32 : decode cX3_verdictOn 32 = .ok (.invokevirtual 44, 3) := by decide +kernel
theorem dX3_verdictOn_35 : decode cX3_verdictOn 35 = .ok (.aload_n 0, 1) := by decide +kernel
theorem dX3_verdictOn_36 : decode cX3_verdictOn 36 = .ok (.getfield 29, 3) := by decide +kernel
theorem dX3_verdictOn_39 : decode cX3_verdictOn 39 = .ok (.ifCond .eq 7, 3) := by decide +kernel
theorem dX3_verdictOn_42 : decode cX3_verdictOn 42 = .ok (.iconst 1, 1) := by decide +kernel
theorem dX3_verdictOn_43 : decode cX3_verdictOn 43 = .ok (.goto 4, 3) := by decide +kernel
theorem dX3_verdictOn_46 : decode cX3_verdictOn 46 = .ok (.iconst 0, 1) := by decide +kernel
theorem dX3_verdictOn_47 : decode cX3_verdictOn 47 = .ok (.istore_n 2, 1) := by decide +kernel
theorem dX3_verdictOn_48 : decode cX3_verdictOn 48 = .ok (.iconst 0, 1) := by decide +kernel
theorem dX3_verdictOn_49 : decode cX3_verdictOn 49 = .ok (.istore_n 3, 1) := by decide +kernel
theorem dX3_verdictOn_50 : decode cX3_verdictOn 50 = .ok (.iload_n 2, 1) := by decide +kernel
theorem dX3_verdictOn_51 : decode cX3_verdictOn 51 = .ok (.ifCond .eq 44, 3) := by decide +kernel
theorem dX3_verdictOn_54 : decode cX3_verdictOn 54 = .ok (.iload_n 3, 1) := by decide +kernel
theorem dX3_verdictOn_55 : decode cX3_verdictOn 55 = .ok (.bipush 16, 2) := by decide +kernel
theorem dX3_verdictOn_57 : decode cX3_verdictOn 57 = .ok (.if_icmp .ge 38, 3) := by decide +kernel
theorem dX3_verdictOn_60 : decode cX3_verdictOn 60 = .ok (.aload_n 0, 1) := by decide +kernel
theorem dX3_verdictOn_61 : decode cX3_verdictOn 61 = .ok (.invokevirtual 47, 3) := by decide +kernel
theorem dX3_verdictOn_64 : decode cX3_verdictOn 64 = .ok (.aload_n 0, 1) := by decide +kernel
theorem dX3_verdictOn_65 : decode cX3_verdictOn 65 = .ok (.dup, 1) := by decide +kernel
theorem dX3_verdictOn_66 : decode cX3_verdictOn 66 = .ok (.getfield 9, 3) := by decide +kernel
theorem dX3_verdictOn_69 : decode cX3_verdictOn 69 = .ok (.iconst 1, 1) := by decide +kernel
theorem dX3_verdictOn_70 : decode cX3_verdictOn 70 = .ok (.iadd, 1) := by decide +kernel
theorem dX3_verdictOn_71 : decode cX3_verdictOn 71 = .ok (.putfield 9, 3) := by decide +kernel
theorem dX3_verdictOn_74 : decode cX3_verdictOn 74 = .ok (.aload_n 0, 1) := by decide +kernel
theorem dX3_verdictOn_75 : decode cX3_verdictOn 75 = .ok (.bipush 59, 2) := by decide +kernel
theorem dX3_verdictOn_77 : decode cX3_verdictOn 77 = .ok (.invokevirtual 50, 3) := by decide +kernel
theorem dX3_verdictOn_80 : decode cX3_verdictOn 80 = .ok (.istore_n 2, 1) := by decide +kernel
theorem dX3_verdictOn_81 : decode cX3_verdictOn 81 = .ok (.iload_n 2, 1) := by decide +kernel
theorem dX3_verdictOn_82 : decode cX3_verdictOn 82 = .ok (.ifCond .eq 7, 3) := by decide +kernel
theorem dX3_verdictOn_85 : decode cX3_verdictOn 85 = .ok (.aload_n 0, 1) := by decide +kernel
theorem dX3_verdictOn_86 : decode cX3_verdictOn 86 = .ok (.invokevirtual 44, 3) := by decide +kernel
theorem dX3_verdictOn_89 : decode cX3_verdictOn 89 = .ok (.iinc 3 1, 3) := by decide +kernel
theorem dX3_verdictOn_92 : decode cX3_verdictOn 92 = .ok (.goto (-42), 3) := by decide +kernel
theorem dX3_verdictOn_95 : decode cX3_verdictOn 95 = .ok (.iload_n 2, 1) := by decide +kernel
theorem dX3_verdictOn_96 : decode cX3_verdictOn 96 = .ok (.ifCond .ne 10, 3) := by decide +kernel
theorem dX3_verdictOn_99 : decode cX3_verdictOn 99 = .ok (.aload_n 0, 1) := by decide +kernel
theorem dX3_verdictOn_100 : decode cX3_verdictOn 100 = .ok (.getfield 29, 3) := by decide +kernel
theorem dX3_verdictOn_103 : decode cX3_verdictOn 103 = .ok (.ifCond .eq 7, 3) := by decide +kernel
theorem dX3_verdictOn_106 : decode cX3_verdictOn 106 = .ok (.aload_n 0, 1) := by decide +kernel
theorem dX3_verdictOn_107 : decode cX3_verdictOn 107 = .ok (.invokevirtual 54, 3) := by decide +kernel
theorem dX3_verdictOn_110 : decode cX3_verdictOn 110 = .ok (.aload_n 0, 1) := by decide +kernel
theorem dX3_verdictOn_111 : decode cX3_verdictOn 111 = .ok (.getfield 25, 3) := by decide +kernel
theorem dX3_verdictOn_114 : decode cX3_verdictOn 114 = .ok (.areturn, 1) := by decide +kernel
theorem dX3_fail_0 : decode cX3_fail 0 = .ok (.aload_n 0, 1) := by decide +kernel
theorem dX3_fail_1 : decode cX3_fail 1 = .ok (.getfield 15, 3) := by decide +kernel
theorem dX3_fail_4 : decode cX3_fail 4 = .ok (.iconst (-1), 1) := by decide +kernel
theorem dX3_fail_5 : decode cX3_fail 5 = .ok (.if_icmp .ne 11, 3) := by decide +kernel
theorem dX3_fail_8 : decode cX3_fail 8 = .ok (.aload_n 0, 1) := by decide +kernel
theorem dX3_fail_9 : decode cX3_fail 9 = .ok (.aload_n 0, 1) := by decide +kernel
theorem dX3_fail_10 : decode cX3_fail 10 = .ok (.getfield 32, 3) := by decide +kernel
theorem dX3_fail_13 : decode cX3_fail 13 = .ok (.putfield 15, 3) := by decide +kernel
theorem dX3_fail_16 : decode cX3_fail 16 = .ok (.aload_n 0, 1) := by decide +kernel
theorem dX3_fail_17 : decode cX3_fail 17 = .ok (.iconst 4, 1) := by decide +kernel
theorem dX3_fail_18 : decode cX3_fail 18 = .ok (.putfield 29, 3) := by decide +kernel
theorem dX3_fail_21 : decode cX3_fail 21 = .ok (.return_, 1) := by decide +kernel
theorem dX3_advance_0 : decode cX3_advance 0 = .ok (.aload_n 0, 1) := by decide +kernel
theorem dX3_advance_1 : decode cX3_advance 1 = .ok (.getfield 15, 3) := by decide +kernel
theorem dX3_advance_4 : decode cX3_advance 4 = .ok (.iconst (-1), 1) := by decide +kernel
theorem dX3_advance_5 : decode cX3_advance 5 = .ok (.if_icmp .eq 4, 3) := by decide +kernel
theorem dX3_advance_8 : decode cX3_advance 8 = .ok (.return_, 1) := by decide +kernel
theorem dX3_advance_9 : decode cX3_advance 9 = .ok (.aload_n 0, 1) := by decide +kernel
theorem dX3_advance_10 : decode cX3_advance 10 = .ok (.aload_n 0, 1) := by decide +kernel
theorem dX3_advance_11 : decode cX3_advance 11 = .ok (.getfield 35, 3) := by decide +kernel
theorem dX3_advance_14 : decode cX3_advance 14 = .ok (.putfield 32, 3) := by decide +kernel
theorem dX3_advance_17 : decode cX3_advance 17 = .ok (.aload_n 0, 1) := by decide +kernel
theorem dX3_advance_18 : decode cX3_advance 18 = .ok (.getfield 32, 3) := by decide +kernel
theorem dX3_advance_21 : decode cX3_advance 21 = .ok (.aload_n 0, 1) := by decide +kernel
theorem dX3_advance_22 : decode cX3_advance 22 = .ok (.getfield 41, 3) := by decide +kernel
theorem dX3_advance_25 : decode cX3_advance 25 = .ok (.arraylength, 1) := by decide +kernel
theorem dX3_advance_26 : decode cX3_advance 26 = .ok (.if_icmp .ge 30, 3) := by decide +kernel
theorem dX3_advance_29 : decode cX3_advance 29 = .ok (.aload_n 0, 1) := by decide +kernel
theorem dX3_advance_30 : decode cX3_advance 30 = .ok (.getfield 41, 3) := by decide +kernel
theorem dX3_advance_33 : decode cX3_advance 33 = .ok (.aload_n 0, 1) := by decide +kernel
theorem dX3_advance_34 : decode cX3_advance 34 = .ok (.getfield 32, 3) := by decide +kernel
theorem dX3_advance_37 : decode cX3_advance 37 = .ok (.iaload, 1) := by decide +kernel
theorem dX3_advance_38 : decode cX3_advance 38 = .ok (.bipush 32, 2) := by decide +kernel
theorem dX3_advance_40 : decode cX3_advance 40 = .ok (.if_icmp .ne 16, 3) := by decide +kernel
theorem dX3_advance_43 : decode cX3_advance 43 = .ok (.aload_n 0, 1) := by decide +kernel
theorem dX3_advance_44 : decode cX3_advance 44 = .ok (.dup, 1) := by decide +kernel
theorem dX3_advance_45 : decode cX3_advance 45 = .ok (.getfield 32, 3) := by decide +kernel
theorem dX3_advance_48 : decode cX3_advance 48 = .ok (.iconst 1, 1) := by decide +kernel
theorem dX3_advance_49 : decode cX3_advance 49 = .ok (.iadd, 1) := by decide +kernel
theorem dX3_advance_50 : decode cX3_advance 50 = .ok (.putfield 32, 3) := by decide +kernel
theorem dX3_advance_53 : decode cX3_advance 53 = .ok (.goto (-36), 3) := by decide +kernel
theorem dX3_advance_56 : decode cX3_advance 56 = .ok (.aload_n 0, 1) := by decide +kernel
theorem dX3_advance_57 : decode cX3_advance 57 = .ok (.aload_n 0, 1) := by decide +kernel
theorem dX3_advance_58 : decode cX3_advance 58 = .ok (.getfield 32, 3) := by decide +kernel
theorem dX3_advance_61 : decode cX3_advance 61 = .ok (.putfield 35, 3) := by decide +kernel
theorem dX3_advance_64 : decode cX3_advance 64 = .ok (.aload_n 0, 1) := by decide +kernel
theorem dX3_advance_65 : decode cX3_advance 65 = .ok (.getfield 32, 3) := by decide +kernel
theorem dX3_advance_68 : decode cX3_advance 68 = .ok (.aload_n 0, 1) := by decide +kernel
theorem dX3_advance_69 : decode cX3_advance 69 = .ok (.getfield 41, 3) := by decide +kernel
theorem dX3_advance_72 : decode cX3_advance 72 = .ok (.arraylength, 1) := by decide +kernel
theorem dX3_advance_73 : decode cX3_advance 73 = .ok (.if_icmp .lt 9, 3) := by decide +kernel
theorem dX3_advance_76 : decode cX3_advance 76 = .ok (.aload_n 0, 1) := by decide +kernel
theorem dX3_advance_77 : decode cX3_advance 77 = .ok (.iconst 0, 1) := by decide +kernel
theorem dX3_advance_78 : decode cX3_advance 78 = .ok (.putfield 29, 3) := by decide +kernel
theorem dX3_advance_81 : decode cX3_advance 81 = .ok (.return_, 1) := by decide +kernel
theorem dX3_advance_82 : decode cX3_advance 82 = .ok (.aload_n 0, 1) := by decide +kernel
theorem dX3_advance_83 : decode cX3_advance 83 = .ok (.aload_n 0, 1) := by decide +kernel
theorem dX3_advance_84 : decode cX3_advance 84 = .ok (.getfield 41, 3) := by decide +kernel
theorem dX3_advance_87 : decode cX3_advance 87 = .ok (.aload_n 0, 1) := by decide +kernel
theorem dX3_advance_88 : decode cX3_advance 88 = .ok (.getfield 32, 3) := by decide +kernel
theorem dX3_advance_91 : decode cX3_advance 91 = .ok (.iaload, 1) := by decide +kernel
theorem dX3_advance_92 : decode cX3_advance 92 = .ok (.invokestatic 57, 3) := by decide +kernel
theorem dX3_advance_95 : decode cX3_advance 95 = .ok (.putfield 29, 3) := by decide +kernel
theorem dX3_advance_98 : decode cX3_advance 98 = .ok (.aload_n 0, 1) := by decide +kernel
theorem dX3_advance_99 : decode cX3_advance 99 = .ok (.dup, 1) := by decide +kernel
theorem dX3_advance_100 : decode cX3_advance 100 = .ok (.getfield 35, 3) := by decide +kernel
theorem dX3_advance_103 : decode cX3_advance 103 = .ok (.iconst 1, 1) := by decide +kernel
theorem dX3_advance_104 : decode cX3_advance 104 = .ok (.iadd, 1) := by decide +kernel
theorem dX3_advance_105 : decode cX3_advance 105 = .ok (.putfield 35, 3) := by decide +kernel
theorem dX3_advance_108 : decode cX3_advance 108 = .ok (.aload_n 0, 1) := by decide +kernel
theorem dX3_advance_109 : decode cX3_advance 109 = .ok (.getfield 29, 3) := by decide +kernel
theorem dX3_advance_112 : decode cX3_advance 112 = .ok (.iconst 3, 1) := by decide +kernel
theorem dX3_advance_113 : decode cX3_advance 113 = .ok (.if_icmp .ne 4, 3) := by decide +kernel
theorem dX3_advance_116 : decode cX3_advance 116 = .ok (.return_, 1) := by decide +kernel
theorem dX3_advance_117 : decode cX3_advance 117 = .ok (.aload_n 0, 1) := by decide +kernel
theorem dX3_advance_118 : decode cX3_advance 118 = .ok (.getfield 35, 3) := by decide +kernel
theorem dX3_advance_121 : decode cX3_advance 121 = .ok (.aload_n 0, 1) := by decide +kernel
theorem dX3_advance_122 : decode cX3_advance 122 = .ok (.getfield 41, 3) := by decide +kernel
theorem dX3_advance_125 : decode cX3_advance 125 = .ok (.arraylength, 1) := by decide +kernel
theorem dX3_advance_126 : decode cX3_advance 126 = .ok (.if_icmp .ge 35, 3) := by decide +kernel
theorem dX3_advance_129 : decode cX3_advance 129 = .ok (.aload_n 0, 1) := by decide +kernel
theorem dX3_advance_130 : decode cX3_advance 130 = .ok (.getfield 41, 3) := by decide +kernel
theorem dX3_advance_133 : decode cX3_advance 133 = .ok (.aload_n 0, 1) := by decide +kernel
theorem dX3_advance_134 : decode cX3_advance 134 = .ok (.getfield 35, 3) := by decide +kernel
theorem dX3_advance_137 : decode cX3_advance 137 = .ok (.iaload, 1) := by decide +kernel
theorem dX3_advance_138 : decode cX3_advance 138 = .ok (.invokestatic 57, 3) := by decide +kernel
theorem dX3_advance_141 : decode cX3_advance 141 = .ok (.aload_n 0, 1) := by decide +kernel
theorem dX3_advance_142 : decode cX3_advance 142 = .ok (.getfield 29, 3) := by decide +kernel
theorem dX3_advance_145 : decode cX3_advance 145 = .ok (.if_icmp .ne 16, 3) := by decide +kernel
theorem dX3_advance_148 : decode cX3_advance 148 = .ok (.aload_n 0, 1) := by decide +kernel
theorem dX3_advance_149 : decode cX3_advance 149 = .ok (.dup, 1) := by decide +kernel
theorem dX3_advance_150 : decode cX3_advance 150 = .ok (.getfield 35, 3) := by decide +kernel
theorem dX3_advance_153 : decode cX3_advance 153 = .ok (.iconst 1, 1) := by decide +kernel
theorem dX3_advance_154 : decode cX3_advance 154 = .ok (.iadd, 1) := by decide +kernel
theorem dX3_advance_155 : decode cX3_advance 155 = .ok (.putfield 35, 3) := by decide +kernel
theorem dX3_advance_158 : decode cX3_advance 158 = .ok (.goto (-41), 3) := by decide +kernel
theorem dX3_advance_161 : decode cX3_advance 161 = .ok (.return_, 1) := by decide +kernel
theorem dX3_thingOf_0 : decode cX3_thingOf 0 = .ok (.iload_n 0, 1) := by decide +kernel
theorem dX3_thingOf_1 : decode cX3_thingOf 1 = .ok (.bipush 97, 2) := by decide +kernel
theorem dX3_thingOf_3 : decode cX3_thingOf 3 = .ok (.if_icmp .lt 11, 3) := by decide +kernel
theorem dX3_thingOf_6 : decode cX3_thingOf 6 = .ok (.iload_n 0, 1) := by decide +kernel
theorem dX3_thingOf_7 : decode cX3_thingOf 7 = .ok (.bipush 122, 2) := by decide +kernel
theorem dX3_thingOf_9 : decode cX3_thingOf 9 = .ok (.if_icmp .gt 5, 3) := by decide +kernel
theorem dX3_thingOf_12 : decode cX3_thingOf 12 = .ok (.iconst 1, 1) := by decide +kernel
theorem dX3_thingOf_13 : decode cX3_thingOf 13 = .ok (.ireturn, 1) := by decide +kernel
theorem dX3_thingOf_14 : decode cX3_thingOf 14 = .ok (.iload_n 0, 1) := by decide +kernel
theorem dX3_thingOf_15 : decode cX3_thingOf 15 = .ok (.bipush 48, 2) := by decide +kernel
theorem dX3_thingOf_17 : decode cX3_thingOf 17 = .ok (.if_icmp .lt 13, 3) := by decide +kernel
theorem dX3_thingOf_20 : decode cX3_thingOf 20 = .ok (.iload_n 0, 1) := by decide +kernel
theorem dX3_thingOf_21 : decode cX3_thingOf 21 = .ok (.bipush 57, 2) := by decide +kernel
theorem dX3_thingOf_23 : decode cX3_thingOf 23 = .ok (.if_icmp .gt 7, 3) := by decide +kernel
theorem dX3_thingOf_26 : decode cX3_thingOf 26 = .ok (.iconst 2, 1) := by decide +kernel
theorem dX3_thingOf_27 : decode cX3_thingOf 27 = .ok (.goto 4, 3) := by decide +kernel
theorem dX3_thingOf_30 : decode cX3_thingOf 30 = .ok (.iconst 3, 1) := by decide +kernel
theorem dX3_thingOf_31 : decode cX3_thingOf 31 = .ok (.ireturn, 1) := by decide +kernel
theorem dX3_isSign_0 : decode cX3_isSign 0 = .ok (.aload_n 0, 1) := by decide +kernel
theorem dX3_isSign_1 : decode cX3_isSign 1 = .ok (.getfield 29, 3) := by decide +kernel
theorem dX3_isSign_4 : decode cX3_isSign 4 = .ok (.iconst 3, 1) := by decide +kernel
theorem dX3_isSign_5 : decode cX3_isSign 5 = .ok (.if_icmp .ne 32, 3) := by decide +kernel
theorem dX3_isSign_8 : decode cX3_isSign 8 = .ok (.aload_n 0, 1) := by decide +kernel
theorem dX3_isSign_9 : decode cX3_isSign 9 = .ok (.getfield 32, 3) := by decide +kernel
theorem dX3_isSign_12 : decode cX3_isSign 12 = .ok (.aload_n 0, 1) := by decide +kernel
theorem dX3_isSign_13 : decode cX3_isSign 13 = .ok (.getfield 41, 3) := by decide +kernel
theorem dX3_isSign_16 : decode cX3_isSign 16 = .ok (.arraylength, 1) := by decide +kernel
theorem dX3_isSign_17 : decode cX3_isSign 17 = .ok (.if_icmp .ge 20, 3) := by decide +kernel
theorem dX3_isSign_20 : decode cX3_isSign 20 = .ok (.aload_n 0, 1) := by decide +kernel
theorem dX3_isSign_21 : decode cX3_isSign 21 = .ok (.getfield 41, 3) := by decide +kernel
theorem dX3_isSign_24 : decode cX3_isSign 24 = .ok (.aload_n 0, 1) := by decide +kernel
theorem dX3_isSign_25 : decode cX3_isSign 25 = .ok (.getfield 32, 3) := by decide +kernel
theorem dX3_isSign_28 : decode cX3_isSign 28 = .ok (.iaload, 1) := by decide +kernel
theorem dX3_isSign_29 : decode cX3_isSign 29 = .ok (.iload_n 1, 1) := by decide +kernel
theorem dX3_isSign_30 : decode cX3_isSign 30 = .ok (.if_icmp .ne 7, 3) := by decide +kernel
theorem dX3_isSign_33 : decode cX3_isSign 33 = .ok (.iconst 1, 1) := by decide +kernel
theorem dX3_isSign_34 : decode cX3_isSign 34 = .ok (.goto 4, 3) := by decide +kernel
theorem dX3_isSign_37 : decode cX3_isSign 37 = .ok (.iconst 0, 1) := by decide +kernel
theorem dX3_isSign_38 : decode cX3_isSign 38 = .ok (.ireturn, 1) := by decide +kernel
theorem dX3_isWord_0 : decode cX3_isWord 0 = .ok (.aload_n 0, 1) := by decide +kernel
theorem dX3_isWord_1 : decode cX3_isWord 1 = .ok (.aload_n 1, 1) := by decide +kernel
theorem dX3_isWord_2 : decode cX3_isWord 2 = .ok (.invokevirtual 61, 3) := by decide +kernel
theorem dX3_isWord_5 : decode cX3_isWord 5 = .ok (.ifCond .ne 7, 3) := by decide +kernel
theorem dX3_isWord_8 : decode cX3_isWord 8 = .ok (.iconst 1, 1) := by decide +kernel
theorem dX3_isWord_9 : decode cX3_isWord 9 = .ok (.goto 4, 3) := by decide +kernel
theorem dX3_isWord_12 : decode cX3_isWord 12 = .ok (.iconst 0, 1) := by decide +kernel
theorem dX3_isWord_13 : decode cX3_isWord 13 = .ok (.ireturn, 1) := by decide +kernel
theorem dX3_numberAmong_0 : decode cX3_numberAmong 0 = .ok (.aload_n 0, 1) := by decide +kernel
theorem dX3_numberAmong_1 : decode cX3_numberAmong 1 = .ok (.getfield 29, 3) := by decide +kernel
theorem dX3_numberAmong_4 : decode cX3_numberAmong 4 = .ok (.iconst 1, 1) := by decide +kernel
theorem dX3_numberAmong_5 : decode cX3_numberAmong 5 = .ok (.if_icmp .eq 5, 3) := by decide +kernel
theorem dX3_numberAmong_8 : decode cX3_numberAmong 8 = .ok (.iconst (-1), 1) := by decide +kernel
theorem dX3_numberAmong_9 : decode cX3_numberAmong 9 = .ok (.ireturn, 1) := by decide +kernel
theorem dX3_numberAmong_10 : decode cX3_numberAmong 10 = .ok (.iconst 0, 1) := by decide +kernel
theorem dX3_numberAmong_11 : decode cX3_numberAmong 11 = .ok (.istore_n 2, 1) := by decide +kernel
theorem dX3_numberAmong_12 : decode cX3_numberAmong 12 = .ok (.aload_n 0, 1) := by decide +kernel
theorem dX3_numberAmong_13 : decode cX3_numberAmong 13 = .ok (.getfield 32, 3) := by decide +kernel
theorem dX3_numberAmong_16 : decode cX3_numberAmong 16 = .ok (.istore_n 3, 1) := by decide +kernel
theorem dX3_numberAmong_17 : decode cX3_numberAmong 17 = .ok (.iconst 1, 1) := by decide +kernel
theorem dX3_numberAmong_18 : decode cX3_numberAmong 18 = .ok (.istore 4, 2) := by decide +kernel
theorem dX3_numberAmong_20 : decode cX3_numberAmong 20 = .ok (.iconst 0, 1) := by decide +kernel
theorem dX3_numberAmong_21 : decode cX3_numberAmong 21 = .ok (.istore 5, 2) := by decide +kernel
theorem dX3_numberAmong_23 : decode cX3_numberAmong 23 = .ok (.iload 5, 2) := by decide +kernel
theorem dX3_numberAmong_25 : decode cX3_numberAmong 25 = .ok (.aload_n 1, 1) := by decide +kernel
theorem dX3_numberAmong_26 : decode cX3_numberAmong 26 = .ok (.invokevirtual 65, 3) := by decide +kernel
theorem dX3_numberAmong_29 : decode cX3_numberAmong 29 = .ok (.if_icmp .ge 96, 3) := by decide +kernel
theorem dX3_numberAmong_32 : decode cX3_numberAmong 32 = .ok (.aload_n 1, 1) := by decide +kernel
theorem dX3_numberAmong_33 : decode cX3_numberAmong 33 = .ok (.iload 5, 2) := by decide +kernel
theorem dX3_numberAmong_35 : decode cX3_numberAmong 35 = .ok (.invokevirtual 71, 3) := by decide +kernel
theorem dX3_numberAmong_38 : decode cX3_numberAmong 38 = .ok (.istore 6, 2) := by decide +kernel
theorem dX3_numberAmong_40 : decode cX3_numberAmong 40 = .ok (.iload 6, 2) := by decide +kernel
theorem dX3_numberAmong_42 : decode cX3_numberAmong 42 = .ok (.bipush 32, 2) := by decide +kernel
theorem dX3_numberAmong_44 : decode cX3_numberAmong 44 = .ok (.if_icmp .ne 32, 3) := by decide +kernel
theorem dX3_numberAmong_47 : decode cX3_numberAmong 47 = .ok (.iload 4, 2) := by decide +kernel
theorem dX3_numberAmong_49 : decode cX3_numberAmong 49 = .ok (.ifCond .eq 13, 3) := by decide +kernel
theorem dX3_numberAmong_52 : decode cX3_numberAmong 52 = .ok (.iload_n 3, 1) := by decide +kernel
theorem dX3_numberAmong_53 : decode cX3_numberAmong 53 = .ok (.aload_n 0, 1) := by decide +kernel
theorem dX3_numberAmong_54 : decode cX3_numberAmong 54 = .ok (.getfield 35, 3) := by decide +kernel
theorem dX3_numberAmong_57 : decode cX3_numberAmong 57 = .ok (.if_icmp .ne 5, 3) := by decide +kernel
theorem dX3_numberAmong_60 : decode cX3_numberAmong 60 = .ok (.iload_n 2, 1) := by decide +kernel
theorem dX3_numberAmong_61 : decode cX3_numberAmong 61 = .ok (.ireturn, 1) := by decide +kernel
theorem dX3_numberAmong_62 : decode cX3_numberAmong 62 = .ok (.iinc 2 1, 3) := by decide +kernel
theorem dX3_numberAmong_65 : decode cX3_numberAmong 65 = .ok (.aload_n 0, 1) := by decide +kernel
theorem dX3_numberAmong_66 : decode cX3_numberAmong 66 = .ok (.getfield 32, 3) := by decide +kernel
theorem dX3_numberAmong_69 : decode cX3_numberAmong 69 = .ok (.istore_n 3, 1) := by decide +kernel
theorem dX3_numberAmong_70 : decode cX3_numberAmong 70 = .ok (.iconst 1, 1) := by decide +kernel
theorem dX3_numberAmong_71 : decode cX3_numberAmong 71 = .ok (.istore 4, 2) := by decide +kernel
theorem dX3_numberAmong_73 : decode cX3_numberAmong 73 = .ok (.goto 46, 3) := by decide +kernel
theorem dX3_numberAmong_76 : decode cX3_numberAmong 76 = .ok (.iload 4, 2) := by decide +kernel
theorem dX3_numberAmong_78 : decode cX3_numberAmong 78 = .ok (.ifCond .eq 35, 3) := by decide +kernel
theorem dX3_numberAmong_81 : decode cX3_numberAmong 81 = .ok (.iload_n 3, 1) := by decide +kernel
theorem dX3_numberAmong_82 : decode cX3_numberAmong 82 = .ok (.aload_n 0, 1) := by decide +kernel
theorem dX3_numberAmong_83 : decode cX3_numberAmong 83 = .ok (.getfield 35, 3) := by decide +kernel
theorem dX3_numberAmong_86 : decode cX3_numberAmong 86 = .ok (.if_icmp .ge 27, 3) := by decide +kernel
theorem dX3_numberAmong_89 : decode cX3_numberAmong 89 = .ok (.iload_n 3, 1) := by decide +kernel
theorem dX3_numberAmong_90 : decode cX3_numberAmong 90 = .ok (.aload_n 0, 1) := by decide +kernel
theorem dX3_numberAmong_91 : decode cX3_numberAmong 91 = .ok (.getfield 41, 3) := by decide +kernel
theorem dX3_numberAmong_94 : decode cX3_numberAmong 94 = .ok (.arraylength, 1) := by decide +kernel
theorem dX3_numberAmong_95 : decode cX3_numberAmong 95 = .ok (.if_icmp .ge 18, 3) := by decide +kernel
theorem dX3_numberAmong_98 : decode cX3_numberAmong 98 = .ok (.aload_n 0, 1) := by decide +kernel
theorem dX3_numberAmong_99 : decode cX3_numberAmong 99 = .ok (.getfield 41, 3) := by decide +kernel
theorem dX3_numberAmong_102 : decode cX3_numberAmong 102 = .ok (.iload_n 3, 1) := by decide +kernel
theorem dX3_numberAmong_103 : decode cX3_numberAmong 103 = .ok (.iaload, 1) := by decide +kernel
theorem dX3_numberAmong_104 : decode cX3_numberAmong 104 = .ok (.iload 6, 2) := by decide +kernel
theorem dX3_numberAmong_106 : decode cX3_numberAmong 106 = .ok (.if_icmp .ne 7, 3) := by decide +kernel
theorem dX3_numberAmong_109 : decode cX3_numberAmong 109 = .ok (.iconst 1, 1) := by decide +kernel
theorem dX3_numberAmong_110 : decode cX3_numberAmong 110 = .ok (.goto 4, 3) := by decide +kernel
theorem dX3_numberAmong_113 : decode cX3_numberAmong 113 = .ok (.iconst 0, 1) := by decide +kernel
theorem dX3_numberAmong_114 : decode cX3_numberAmong 114 = .ok (.istore 4, 2) := by decide +kernel
theorem dX3_numberAmong_116 : decode cX3_numberAmong 116 = .ok (.iinc 3 1, 3) := by decide +kernel
theorem dX3_numberAmong_119 : decode cX3_numberAmong 119 = .ok (.iinc 5 1, 3) := by decide +kernel
theorem dX3_numberAmong_122 : decode cX3_numberAmong 122 = .ok (.goto (-99), 3) := by decide +kernel
theorem dX3_numberAmong_125 : decode cX3_numberAmong 125 = .ok (.iload 4, 2) := by decide +kernel
theorem dX3_numberAmong_127 : decode cX3_numberAmong 127 = .ok (.ifCond .eq 15, 3) := by decide +kernel
theorem dX3_numberAmong_130 : decode cX3_numberAmong 130 = .ok (.iload_n 3, 1) := by decide +kernel
theorem dX3_numberAmong_131 : decode cX3_numberAmong 131 = .ok (.aload_n 0, 1) := by decide +kernel
theorem dX3_numberAmong_132 : decode cX3_numberAmong 132 = .ok (.getfield 35, 3) := by decide +kernel
theorem dX3_numberAmong_135 : decode cX3_numberAmong 135 = .ok (.if_icmp .ne 7, 3) := by decide +kernel
theorem dX3_numberAmong_138 : decode cX3_numberAmong 138 = .ok (.iload_n 2, 1) := by decide +kernel
theorem dX3_numberAmong_139 : decode cX3_numberAmong 139 = .ok (.goto 4, 3) := by decide +kernel
theorem dX3_numberAmong_142 : decode cX3_numberAmong 142 = .ok (.iconst (-1), 1) := by decide +kernel
theorem dX3_numberAmong_143 : decode cX3_numberAmong 143 = .ok (.ireturn, 1) := by decide +kernel
theorem dX3_readClause_0 : decode cX3_readClause 0 = .ok (.aload_n 0, 1) := by decide +kernel
theorem dX3_readClause_1 : decode cX3_readClause 1 = .ok (.ldc 75, 2) := by decide +kernel
theorem dX3_readClause_3 : decode cX3_readClause 3 = .ok (.invokevirtual 61, 3) := by decide +kernel
theorem dX3_readClause_6 : decode cX3_readClause 6 = .ok (.istore_n 1, 1) := by decide +kernel
theorem dX3_readClause_7 : decode cX3_readClause 7 = .ok (.iload_n 1, 1) := by decide +kernel
theorem dX3_readClause_8 : decode cX3_readClause 8 = .ok (.iconst (-1), 1) := by decide +kernel
theorem dX3_readClause_9 : decode cX3_readClause 9 = .ok (.if_icmp .ne 8, 3) := by decide +kernel
theorem dX3_readClause_12 : decode cX3_readClause 12 = .ok (.aload_n 0, 1) := by decide +kernel
theorem dX3_readClause_13 : decode cX3_readClause 13 = .ok (.invokevirtual 54, 3) := by decide +kernel
theorem dX3_readClause_16 : decode cX3_readClause 16 = .ok (.return_, 1) := by decide +kernel
theorem dX3_readClause_17 : decode cX3_readClause 17 = .ok (.aload_n 0, 1) := by decide +kernel
theorem dX3_readClause_18 : decode cX3_readClause 18 = .ok (.invokevirtual 44, 3) := by decide +kernel
theorem dX3_readClause_21 : decode cX3_readClause 21 = .ok (.iconst 0, 1) := by decide +kernel
theorem dX3_readClause_22 : decode cX3_readClause 22 = .ok (.istore_n 2, 1) := by decide +kernel
theorem dX3_readClause_23 : decode cX3_readClause 23 = .ok (.iload_n 1, 1) := by decide +kernel
theorem dX3_readClause_24 : decode cX3_readClause 24 = .ok (.ifCond .ne 11, 3) := by decide +kernel
theorem dX3_readClause_27 : decode cX3_readClause 27 = .ok (.aload_n 0, 1) := by decide +kernel
theorem dX3_readClause_28 : decode cX3_readClause 28 = .ok (.invokevirtual 77, 3) := by decide +kernel
theorem dX3_readClause_31 : decode cX3_readClause 31 = .ok (.istore_n 2, 1) := by decide +kernel
theorem dX3_readClause_32 : decode cX3_readClause 32 = .ok (.goto 13, 3) := by decide +kernel
theorem dX3_readClause_35 : decode cX3_readClause 35 = .ok (.iload_n 1, 1) := by decide +kernel
theorem dX3_readClause_36 : decode cX3_readClause 36 = .ok (.iconst 5, 1) := by decide +kernel
theorem dX3_readClause_37 : decode cX3_readClause 37 = .ok (.if_icmp .eq 8, 3) := by decide +kernel
theorem dX3_readClause_40 : decode cX3_readClause 40 = .ok (.aload_n 0, 1) := by decide +kernel
theorem dX3_readClause_41 : decode cX3_readClause 41 = .ok (.invokevirtual 80, 3) := by decide +kernel
theorem dX3_readClause_44 : decode cX3_readClause 44 = .ok (.istore_n 2, 1) := by decide +kernel
theorem dX3_readClause_45 : decode cX3_readClause 45 = .ok (.iconst 1, 1) := by decide +kernel
theorem dX3_readClause_46 : decode cX3_readClause 46 = .ok (.istore_n 3, 1) := by decide +kernel
theorem dX3_readClause_47 : decode cX3_readClause 47 = .ok (.aload_n 0, 1) := by decide +kernel
theorem dX3_readClause_48 : decode cX3_readClause 48 = .ok (.ldc 83, 2) := by decide +kernel
theorem dX3_readClause_50 : decode cX3_readClause 50 = .ok (.invokevirtual 85, 3) := by decide +kernel
theorem dX3_readClause_53 : decode cX3_readClause 53 = .ok (.ifCond .eq 13, 3) := by decide +kernel
theorem dX3_readClause_56 : decode cX3_readClause 56 = .ok (.aload_n 0, 1) := by decide +kernel
theorem dX3_readClause_57 : decode cX3_readClause 57 = .ok (.invokevirtual 44, 3) := by decide +kernel
theorem dX3_readClause_60 : decode cX3_readClause 60 = .ok (.aload_n 0, 1) := by decide +kernel
theorem dX3_readClause_61 : decode cX3_readClause 61 = .ok (.iconst 0, 1) := by decide +kernel
theorem dX3_readClause_62 : decode cX3_readClause 62 = .ok (.invokevirtual 89, 3) := by decide +kernel
theorem dX3_readClause_65 : decode cX3_readClause 65 = .ok (.istore_n 3, 1) := by decide +kernel
theorem dX3_readClause_66 : decode cX3_readClause 66 = .ok (.iload_n 3, 1) := by decide +kernel
theorem dX3_readClause_67 : decode cX3_readClause 67 = .ok (.ifCond .eq 12, 3) := by decide +kernel
theorem dX3_readClause_70 : decode cX3_readClause 70 = .ok (.aload_n 0, 1) := by decide +kernel
theorem dX3_readClause_71 : decode cX3_readClause 71 = .ok (.getfield 25, 3) := by decide +kernel
theorem dX3_readClause_74 : decode cX3_readClause 74 = .ok (.iload_n 1, 1) := by decide +kernel
theorem dX3_readClause_75 : decode cX3_readClause 75 = .ok (.iload_n 2, 1) := by decide +kernel
theorem dX3_readClause_76 : decode cX3_readClause 76 = .ok (.invokevirtual 92, 3) := by decide +kernel
theorem dX3_readClause_79 : decode cX3_readClause 79 = .ok (.return_, 1) := by decide +kernel
theorem dX3_readItem_0 : decode cX3_readItem 0 = .ok (.aload_n 0, 1) := by decide +kernel
theorem dX3_readItem_1 : decode cX3_readItem 1 = .ok (.ldc 96, 2) := by decide +kernel
theorem dX3_readItem_3 : decode cX3_readItem 3 = .ok (.invokevirtual 61, 3) := by decide +kernel
theorem dX3_readItem_6 : decode cX3_readItem 6 = .ok (.istore_n 1, 1) := by decide +kernel
theorem dX3_readItem_7 : decode cX3_readItem 7 = .ok (.iload_n 1, 1) := by decide +kernel
theorem dX3_readItem_8 : decode cX3_readItem 8 = .ok (.iconst (-1), 1) := by decide +kernel
theorem dX3_readItem_9 : decode cX3_readItem 9 = .ok (.if_icmp .ne 9, 3) := by decide +kernel
theorem dX3_readItem_12 : decode cX3_readItem 12 = .ok (.aload_n 0, 1) := by decide +kernel
theorem dX3_readItem_13 : decode cX3_readItem 13 = .ok (.invokevirtual 54, 3) := by decide +kernel
theorem dX3_readItem_16 : decode cX3_readItem 16 = .ok (.iconst 0, 1) := by decide +kernel
theorem dX3_readItem_17 : decode cX3_readItem 17 = .ok (.ireturn, 1) := by decide +kernel
theorem dX3_readItem_18 : decode cX3_readItem 18 = .ok (.aload_n 0, 1) := by decide +kernel
theorem dX3_readItem_19 : decode cX3_readItem 19 = .ok (.invokevirtual 44, 3) := by decide +kernel
theorem dX3_readItem_22 : decode cX3_readItem 22 = .ok (.iconst 1, 1) := by decide +kernel
theorem dX3_readItem_23 : decode cX3_readItem 23 = .ok (.iload_n 1, 1) := by decide +kernel
theorem dX3_readItem_24 : decode cX3_readItem 24 = .ok (.ishl, 1) := by decide +kernel
theorem dX3_readItem_25 : decode cX3_readItem 25 = .ok (.ireturn, 1) := by decide +kernel
theorem dX3_readNumber_0 : decode cX3_readNumber 0 = .ok (.aload_n 0, 1) := by decide +kernel
theorem dX3_readNumber_1 : decode cX3_readNumber 1 = .ok (.getfield 29, 3) := by decide +kernel
theorem dX3_readNumber_4 : decode cX3_readNumber 4 = .ok (.iconst 2, 1) := by decide +kernel
theorem dX3_readNumber_5 : decode cX3_readNumber 5 = .ok (.if_icmp .ne 16, 3) := by decide +kernel
theorem dX3_readNumber_8 : decode cX3_readNumber 8 = .ok (.aload_n 0, 1) := by decide +kernel
theorem dX3_readNumber_9 : decode cX3_readNumber 9 = .ok (.getfield 35, 3) := by decide +kernel
theorem dX3_readNumber_12 : decode cX3_readNumber 12 = .ok (.aload_n 0, 1) := by decide +kernel
theorem dX3_readNumber_13 : decode cX3_readNumber 13 = .ok (.getfield 32, 3) := by decide +kernel
theorem dX3_readNumber_16 : decode cX3_readNumber 16 = .ok (.isub, 1) := by decide +kernel
theorem dX3_readNumber_17 : decode cX3_readNumber 17 = .ok (.iconst 4, 1) := by decide +kernel
theorem dX3_readNumber_18 : decode cX3_readNumber 18 = .ok (.if_icmp .le 9, 3) := by decide +kernel
theorem dX3_readNumber_21 : decode cX3_readNumber 21 = .ok (.aload_n 0, 1) := by decide +kernel
theorem dX3_readNumber_22 : decode cX3_readNumber 22 = .ok (.invokevirtual 54, 3) := by decide +kernel
theorem dX3_readNumber_25 : decode cX3_readNumber 25 = .ok (.iconst 0, 1) := by decide +kernel
theorem dX3_readNumber_26 : decode cX3_readNumber 26 = .ok (.ireturn, 1) := by decide +kernel
theorem dX3_readNumber_27 : decode cX3_readNumber 27 = .ok (.iconst 0, 1) := by decide +kernel
theorem dX3_readNumber_28 : decode cX3_readNumber 28 = .ok (.istore_n 1, 1) := by decide +kernel
theorem dX3_readNumber_29 : decode cX3_readNumber 29 = .ok (.aload_n 0, 1) := by decide +kernel
theorem dX3_readNumber_30 : decode cX3_readNumber 30 = .ok (.getfield 32, 3) := by decide +kernel
theorem dX3_readNumber_33 : decode cX3_readNumber 33 = .ok (.istore_n 2, 1) := by decide +kernel
theorem dX3_readNumber_34 : decode cX3_readNumber 34 = .ok (.iload_n 2, 1) := by decide +kernel
theorem dX3_readNumber_35 : decode cX3_readNumber 35 = .ok (.aload_n 0, 1) := by decide +kernel
theorem dX3_readNumber_36 : decode cX3_readNumber 36 = .ok (.getfield 35, 3) := by decide +kernel
theorem dX3_readNumber_39 : decode cX3_readNumber 39 = .ok (.if_icmp .ge 33, 3) := by decide +kernel
theorem dX3_readNumber_42 : decode cX3_readNumber 42 = .ok (.iload_n 2, 1) := by decide +kernel
theorem dX3_readNumber_43 : decode cX3_readNumber 43 = .ok (.aload_n 0, 1) := by decide +kernel
theorem dX3_readNumber_44 : decode cX3_readNumber 44 = .ok (.getfield 41, 3) := by decide +kernel
theorem dX3_readNumber_47 : decode cX3_readNumber 47 = .ok (.arraylength, 1) := by decide +kernel
theorem dX3_readNumber_48 : decode cX3_readNumber 48 = .ok (.if_icmp .ge 24, 3) := by decide +kernel
theorem dX3_readNumber_51 : decode cX3_readNumber 51 = .ok (.iload_n 1, 1) := by decide +kernel
theorem dX3_readNumber_52 : decode cX3_readNumber 52 = .ok (.bipush 10, 2) := by decide +kernel
theorem dX3_readNumber_54 : decode cX3_readNumber 54 = .ok (.imul, 1) := by decide +kernel
theorem dX3_readNumber_55 : decode cX3_readNumber 55 = .ok (.aload_n 0, 1) := by decide +kernel
theorem dX3_readNumber_56 : decode cX3_readNumber 56 = .ok (.getfield 41, 3) := by decide +kernel
theorem dX3_readNumber_59 : decode cX3_readNumber 59 = .ok (.iload_n 2, 1) := by decide +kernel
theorem dX3_readNumber_60 : decode cX3_readNumber 60 = .ok (.iaload, 1) := by decide +kernel
theorem dX3_readNumber_61 : decode cX3_readNumber 61 = .ok (.iadd, 1) := by decide +kernel
theorem dX3_readNumber_62 : decode cX3_readNumber 62 = .ok (.bipush 48, 2) := by decide +kernel
theorem dX3_readNumber_64 : decode cX3_readNumber 64 = .ok (.isub, 1) := by decide +kernel
theorem dX3_readNumber_65 : decode cX3_readNumber 65 = .ok (.istore_n 1, 1) := by decide +kernel
theorem dX3_readNumber_66 : decode cX3_readNumber 66 = .ok (.iinc 2 1, 3) := by decide +kernel
theorem dX3_readNumber_69 : decode cX3_readNumber 69 = .ok (.goto (-35), 3) := by decide +kernel
theorem dX3_readNumber_72 : decode cX3_readNumber 72 = .ok (.aload_n 0, 1) := by decide +kernel
theorem dX3_readNumber_73 : decode cX3_readNumber 73 = .ok (.invokevirtual 44, 3) := by decide +kernel
theorem dX3_readNumber_76 : decode cX3_readNumber 76 = .ok (.iload_n 1, 1) := by decide +kernel
theorem dX3_readNumber_77 : decode cX3_readNumber 77 = .ok (.ireturn, 1) := by decide +kernel
theorem dX3_readAny_0 : decode cX3_readAny 0 = .ok (.aload_n 0, 1) := by decide +kernel
theorem dX3_readAny_1 : decode cX3_readAny 1 = .ok (.iload_n 1, 1) := by decide +kernel
theorem dX3_readAny_2 : decode cX3_readAny 2 = .ok (.invokevirtual 98, 3) := by decide +kernel
theorem dX3_readAny_5 : decode cX3_readAny 5 = .ok (.istore_n 2, 1) := by decide +kernel
theorem dX3_readAny_6 : decode cX3_readAny 6 = .ok (.iconst 0, 1) := by decide +kernel
theorem dX3_readAny_7 : decode cX3_readAny 7 = .ok (.istore_n 3, 1) := by decide +kernel
theorem dX3_readAny_8 : decode cX3_readAny 8 = .ok (.iload_n 3, 1) := by decide +kernel
theorem dX3_readAny_9 : decode cX3_readAny 9 = .ok (.aload_n 0, 1) := by decide +kernel
theorem dX3_readAny_10 : decode cX3_readAny 10 = .ok (.getfield 41, 3) := by decide +kernel
theorem dX3_readAny_13 : decode cX3_readAny 13 = .ok (.arraylength, 1) := by decide +kernel
theorem dX3_readAny_14 : decode cX3_readAny 14 = .ok (.if_icmp .ge 30, 3) := by decide +kernel
theorem dX3_readAny_17 : decode cX3_readAny 17 = .ok (.aload_n 0, 1) := by decide +kernel
theorem dX3_readAny_18 : decode cX3_readAny 18 = .ok (.ldc 101, 2) := by decide +kernel
theorem dX3_readAny_20 : decode cX3_readAny 20 = .ok (.invokevirtual 85, 3) := by decide +kernel
theorem dX3_readAny_23 : decode cX3_readAny 23 = .ok (.ifCond .eq 21, 3) := by decide +kernel
theorem dX3_readAny_26 : decode cX3_readAny 26 = .ok (.aload_n 0, 1) := by decide +kernel
theorem dX3_readAny_27 : decode cX3_readAny 27 = .ok (.invokevirtual 44, 3) := by decide +kernel
theorem dX3_readAny_30 : decode cX3_readAny 30 = .ok (.iload_n 2, 1) := by decide +kernel
theorem dX3_readAny_31 : decode cX3_readAny 31 = .ok (.aload_n 0, 1) := by decide +kernel
theorem dX3_readAny_32 : decode cX3_readAny 32 = .ok (.iload_n 1, 1) := by decide +kernel
theorem dX3_readAny_33 : decode cX3_readAny 33 = .ok (.invokevirtual 98, 3) := by decide +kernel
theorem dX3_readAny_36 : decode cX3_readAny 36 = .ok (.ior, 1) := by decide +kernel
theorem dX3_readAny_37 : decode cX3_readAny 37 = .ok (.istore_n 2, 1) := by decide +kernel
theorem dX3_readAny_38 : decode cX3_readAny 38 = .ok (.iinc 3 1, 3) := by decide +kernel
theorem dX3_readAny_41 : decode cX3_readAny 41 = .ok (.goto (-33), 3) := by decide +kernel
theorem dX3_readAny_44 : decode cX3_readAny 44 = .ok (.iload_n 2, 1) := by decide +kernel
theorem dX3_readAny_45 : decode cX3_readAny 45 = .ok (.ireturn, 1) := by decide +kernel
theorem dX3_readAll_0 : decode cX3_readAll 0 = .ok (.aload_n 0, 1) := by decide +kernel
theorem dX3_readAll_1 : decode cX3_readAll 1 = .ok (.iload_n 1, 1) := by decide +kernel
theorem dX3_readAll_2 : decode cX3_readAll 2 = .ok (.invokevirtual 103, 3) := by decide +kernel
theorem dX3_readAll_5 : decode cX3_readAll 5 = .ok (.istore_n 2, 1) := by decide +kernel
theorem dX3_readAll_6 : decode cX3_readAll 6 = .ok (.iconst 0, 1) := by decide +kernel
theorem dX3_readAll_7 : decode cX3_readAll 7 = .ok (.istore_n 3, 1) := by decide +kernel
theorem dX3_readAll_8 : decode cX3_readAll 8 = .ok (.iload_n 3, 1) := by decide +kernel
theorem dX3_readAll_9 : decode cX3_readAll 9 = .ok (.aload_n 0, 1) := by decide +kernel
theorem dX3_readAll_10 : decode cX3_readAll 10 = .ok (.getfield 41, 3) := by decide +kernel
theorem dX3_readAll_13 : decode cX3_readAll 13 = .ok (.arraylength, 1) := by decide +kernel
theorem dX3_readAll_14 : decode cX3_readAll 14 = .ok (.if_icmp .ge 30, 3) := by decide +kernel
theorem dX3_readAll_17 : decode cX3_readAll 17 = .ok (.aload_n 0, 1) := by decide +kernel
theorem dX3_readAll_18 : decode cX3_readAll 18 = .ok (.ldc 106, 2) := by decide +kernel
theorem dX3_readAll_20 : decode cX3_readAll 20 = .ok (.invokevirtual 85, 3) := by decide +kernel
theorem dX3_readAll_23 : decode cX3_readAll 23 = .ok (.ifCond .eq 21, 3) := by decide +kernel
theorem dX3_readAll_26 : decode cX3_readAll 26 = .ok (.aload_n 0, 1) := by decide +kernel
theorem dX3_readAll_27 : decode cX3_readAll 27 = .ok (.invokevirtual 44, 3) := by decide +kernel
theorem dX3_readAll_30 : decode cX3_readAll 30 = .ok (.iload_n 2, 1) := by decide +kernel
theorem dX3_readAll_31 : decode cX3_readAll 31 = .ok (.aload_n 0, 1) := by decide +kernel
theorem dX3_readAll_32 : decode cX3_readAll 32 = .ok (.iload_n 1, 1) := by decide +kernel
theorem dX3_readAll_33 : decode cX3_readAll 33 = .ok (.invokevirtual 103, 3) := by decide +kernel
theorem dX3_readAll_36 : decode cX3_readAll 36 = .ok (.iand, 1) := by decide +kernel
theorem dX3_readAll_37 : decode cX3_readAll 37 = .ok (.istore_n 2, 1) := by decide +kernel
theorem dX3_readAll_38 : decode cX3_readAll 38 = .ok (.iinc 3 1, 3) := by decide +kernel
theorem dX3_readAll_41 : decode cX3_readAll 41 = .ok (.goto (-33), 3) := by decide +kernel
theorem dX3_readAll_44 : decode cX3_readAll 44 = .ok (.iload_n 2, 1) := by decide +kernel
theorem dX3_readAll_45 : decode cX3_readAll 45 = .ok (.ireturn, 1) := by decide +kernel
theorem dX3_readAtom_0 : decode cX3_readAtom 0 = .ok (.aload_n 0, 1) := by decide +kernel
theorem dX3_readAtom_1 : decode cX3_readAtom 1 = .ok (.ldc 108, 2) := by decide +kernel
theorem dX3_readAtom_3 : decode cX3_readAtom 3 = .ok (.invokevirtual 85, 3) := by decide +kernel
theorem dX3_readAtom_6 : decode cX3_readAtom 6 = .ok (.istore_n 2, 1) := by decide +kernel
theorem dX3_readAtom_7 : decode cX3_readAtom 7 = .ok (.iload_n 2, 1) := by decide +kernel
theorem dX3_readAtom_8 : decode cX3_readAtom 8 = .ok (.ifCond .ne 17, 3) := by decide +kernel
theorem dX3_readAtom_11 : decode cX3_readAtom 11 = .ok (.aload_n 0, 1) := by decide +kernel
theorem dX3_readAtom_12 : decode cX3_readAtom 12 = .ok (.bipush 40, 2) := by decide +kernel
theorem dX3_readAtom_14 : decode cX3_readAtom 14 = .ok (.invokevirtual 50, 3) := by decide +kernel
theorem dX3_readAtom_17 : decode cX3_readAtom 17 = .ok (.ifCond .ne 8, 3) := by decide +kernel
theorem dX3_readAtom_20 : decode cX3_readAtom 20 = .ok (.aload_n 0, 1) := by decide +kernel
theorem dX3_readAtom_21 : decode cX3_readAtom 21 = .ok (.invokevirtual 110, 3) := by decide +kernel
theorem dX3_readAtom_24 : decode cX3_readAtom 24 = .ok (.ireturn, 1) := by decide +kernel
theorem dX3_readAtom_25 : decode cX3_readAtom 25 = .ok (.iload_n 1, 1) := by decide +kernel
theorem dX3_readAtom_26 : decode cX3_readAtom 26 = .ok (.bipush 8, 2) := by decide +kernel
theorem dX3_readAtom_28 : decode cX3_readAtom 28 = .ok (.if_icmp .lt 9, 3) := by decide +kernel
theorem dX3_readAtom_31 : decode cX3_readAtom 31 = .ok (.aload_n 0, 1) := by decide +kernel
theorem dX3_readAtom_32 : decode cX3_readAtom 32 = .ok (.invokevirtual 54, 3) := by decide +kernel
theorem dX3_readAtom_35 : decode cX3_readAtom 35 = .ok (.iconst 0, 1) := by decide +kernel
theorem dX3_readAtom_36 : decode cX3_readAtom 36 = .ok (.ireturn, 1) := by decide +kernel
theorem dX3_readAtom_37 : decode cX3_readAtom 37 = .ok (.aload_n 0, 1) := by decide +kernel
theorem dX3_readAtom_38 : decode cX3_readAtom 38 = .ok (.invokevirtual 44, 3) := by decide +kernel
theorem dX3_readAtom_41 : decode cX3_readAtom 41 = .ok (.iload_n 2, 1) := by decide +kernel
theorem dX3_readAtom_42 : decode cX3_readAtom 42 = .ok (.ifCond .eq 19, 3) := by decide +kernel
theorem dX3_readAtom_45 : decode cX3_readAtom 45 = .ok (.aload_n 0, 1) := by decide +kernel
theorem dX3_readAtom_46 : decode cX3_readAtom 46 = .ok (.iload_n 1, 1) := by decide +kernel
theorem dX3_readAtom_47 : decode cX3_readAtom 47 = .ok (.iconst 1, 1) := by decide +kernel
theorem dX3_readAtom_48 : decode cX3_readAtom 48 = .ok (.iadd, 1) := by decide +kernel
theorem dX3_readAtom_49 : decode cX3_readAtom 49 = .ok (.invokevirtual 103, 3) := by decide +kernel
theorem dX3_readAtom_52 : decode cX3_readAtom 52 = .ok (.ifCond .ne 7, 3) := by decide +kernel
theorem dX3_readAtom_55 : decode cX3_readAtom 55 = .ok (.iconst 1, 1) := by decide +kernel
theorem dX3_readAtom_56 : decode cX3_readAtom 56 = .ok (.goto 4, 3) := by decide +kernel
theorem dX3_readAtom_59 : decode cX3_readAtom 59 = .ok (.iconst 0, 1) := by decide +kernel
theorem dX3_readAtom_60 : decode cX3_readAtom 60 = .ok (.ireturn, 1) := by decide +kernel
theorem dX3_readAtom_61 : decode cX3_readAtom 61 = .ok (.aload_n 0, 1) := by decide +kernel
theorem dX3_readAtom_62 : decode cX3_readAtom 62 = .ok (.iload_n 1, 1) := by decide +kernel
theorem dX3_readAtom_63 : decode cX3_readAtom 63 = .ok (.iconst 1, 1) := by decide +kernel
theorem dX3_readAtom_64 : decode cX3_readAtom 64 = .ok (.iadd, 1) := by decide +kernel
theorem dX3_readAtom_65 : decode cX3_readAtom 65 = .ok (.invokevirtual 89, 3) := by decide +kernel
theorem dX3_readAtom_68 : decode cX3_readAtom 68 = .ok (.istore_n 3, 1) := by decide +kernel
theorem dX3_readAtom_69 : decode cX3_readAtom 69 = .ok (.aload_n 0, 1) := by decide +kernel
theorem dX3_readAtom_70 : decode cX3_readAtom 70 = .ok (.bipush 41, 2) := by decide +kernel
theorem dX3_readAtom_72 : decode cX3_readAtom 72 = .ok (.invokevirtual 50, 3) := by decide +kernel
theorem dX3_readAtom_75 : decode cX3_readAtom 75 = .ok (.ifCond .eq 10, 3) := by decide +kernel
theorem dX3_readAtom_78 : decode cX3_readAtom 78 = .ok (.aload_n 0, 1) := by decide +kernel
theorem dX3_readAtom_79 : decode cX3_readAtom 79 = .ok (.invokevirtual 44, 3) := by decide +kernel
theorem dX3_readAtom_82 : decode cX3_readAtom 82 = .ok (.goto 7, 3) := by decide +kernel
theorem dX3_readAtom_85 : decode cX3_readAtom 85 = .ok (.aload_n 0, 1) := by decide +kernel
theorem dX3_readAtom_86 : decode cX3_readAtom 86 = .ok (.invokevirtual 54, 3) := by decide +kernel
theorem dX3_readAtom_89 : decode cX3_readAtom 89 = .ok (.iload_n 3, 1) := by decide +kernel
theorem dX3_readAtom_90 : decode cX3_readAtom 90 = .ok (.ireturn, 1) := by decide +kernel
theorem dX3_readFact_0 : decode cX3_readFact 0 = .ok (.aload_n 0, 1) := by decide +kernel
theorem dX3_readFact_1 : decode cX3_readFact 1 = .ok (.ldc 114, 2) := by decide +kernel
theorem dX3_readFact_3 : decode cX3_readFact 3 = .ok (.invokevirtual 61, 3) := by decide +kernel
theorem dX3_readFact_6 : decode cX3_readFact 6 = .ok (.istore_n 1, 1) := by decide +kernel
theorem dX3_readFact_7 : decode cX3_readFact 7 = .ok (.iload_n 1, 1) := by decide +kernel
theorem dX3_readFact_8 : decode cX3_readFact 8 = .ok (.ifCond .lt 12, 3) := by decide +kernel
theorem dX3_readFact_11 : decode cX3_readFact 11 = .ok (.iload_n 1, 1) := by decide +kernel
theorem dX3_readFact_12 : decode cX3_readFact 12 = .ok (.aload_n 0, 1) := by decide +kernel
theorem dX3_readFact_13 : decode cX3_readFact 13 = .ok (.getfield 18, 3) := by decide +kernel
theorem dX3_readFact_16 : decode cX3_readFact 16 = .ok (.arraylength, 1) := by decide +kernel
theorem dX3_readFact_17 : decode cX3_readFact 17 = .ok (.if_icmp .lt 9, 3) := by decide +kernel
theorem dX3_readFact_20 : decode cX3_readFact 20 = .ok (.aload_n 0, 1) := by decide +kernel
theorem dX3_readFact_21 : decode cX3_readFact 21 = .ok (.invokevirtual 54, 3) := by decide +kernel
theorem dX3_readFact_24 : decode cX3_readFact 24 = .ok (.iconst 0, 1) := by decide +kernel
theorem dX3_readFact_25 : decode cX3_readFact 25 = .ok (.ireturn, 1) := by decide +kernel
theorem dX3_readFact_26 : decode cX3_readFact 26 = .ok (.aload_n 0, 1) := by decide +kernel
theorem dX3_readFact_27 : decode cX3_readFact 27 = .ok (.getfield 18, 3) := by decide +kernel
theorem dX3_readFact_30 : decode cX3_readFact 30 = .ok (.iload_n 1, 1) := by decide +kernel
theorem dX3_readFact_31 : decode cX3_readFact 31 = .ok (.iaload, 1) := by decide +kernel
theorem dX3_readFact_32 : decode cX3_readFact 32 = .ok (.istore_n 2, 1) := by decide +kernel
theorem dX3_readFact_33 : decode cX3_readFact 33 = .ok (.aload_n 0, 1) := by decide +kernel
theorem dX3_readFact_34 : decode cX3_readFact 34 = .ok (.invokevirtual 44, 3) := by decide +kernel
theorem dX3_readFact_37 : decode cX3_readFact 37 = .ok (.aload_n 0, 1) := by decide +kernel
theorem dX3_readFact_38 : decode cX3_readFact 38 = .ok (.bipush 60, 2) := by decide +kernel
theorem dX3_readFact_40 : decode cX3_readFact 40 = .ok (.invokevirtual 50, 3) := by decide +kernel
theorem dX3_readFact_43 : decode cX3_readFact 43 = .ok (.istore_n 3, 1) := by decide +kernel
theorem dX3_readFact_44 : decode cX3_readFact 44 = .ok (.iload_n 3, 1) := by decide +kernel
theorem dX3_readFact_45 : decode cX3_readFact 45 = .ok (.ifCond .ne 22, 3) := by decide +kernel
theorem dX3_readFact_48 : decode cX3_readFact 48 = .ok (.aload_n 0, 1) := by decide +kernel
theorem dX3_readFact_49 : decode cX3_readFact 49 = .ok (.bipush 62, 2) := by decide +kernel
theorem dX3_readFact_51 : decode cX3_readFact 51 = .ok (.invokevirtual 50, 3) := by decide +kernel
theorem dX3_readFact_54 : decode cX3_readFact 54 = .ok (.ifCond .ne 13, 3) := by decide +kernel
theorem dX3_readFact_57 : decode cX3_readFact 57 = .ok (.iload_n 2, 1) := by decide +kernel
theorem dX3_readFact_58 : decode cX3_readFact 58 = .ok (.ifCond .eq 7, 3) := by decide +kernel
theorem dX3_readFact_61 : decode cX3_readFact 61 = .ok (.iconst 1, 1) := by decide +kernel
theorem dX3_readFact_62 : decode cX3_readFact 62 = .ok (.goto 4, 3) := by decide +kernel
theorem dX3_readFact_65 : decode cX3_readFact 65 = .ok (.iconst 0, 1) := by decide +kernel
theorem dX3_readFact_66 : decode cX3_readFact 66 = .ok (.ireturn, 1) := by decide +kernel
theorem dX3_readFact_67 : decode cX3_readFact 67 = .ok (.aload_n 0, 1) := by decide +kernel
theorem dX3_readFact_68 : decode cX3_readFact 68 = .ok (.invokevirtual 44, 3) := by decide +kernel
theorem dX3_readFact_71 : decode cX3_readFact 71 = .ok (.aload_n 0, 1) := by decide +kernel
theorem dX3_readFact_72 : decode cX3_readFact 72 = .ok (.invokevirtual 80, 3) := by decide +kernel
theorem dX3_readFact_75 : decode cX3_readFact 75 = .ok (.istore 4, 2) := by decide +kernel
theorem dX3_readFact_77 : decode cX3_readFact 77 = .ok (.iload_n 3, 1) := by decide +kernel
theorem dX3_readFact_78 : decode cX3_readFact 78 = .ok (.ifCond .eq 17, 3) := by decide +kernel
theorem dX3_readFact_81 : decode cX3_readFact 81 = .ok (.iload_n 2, 1) := by decide +kernel
theorem dX3_readFact_82 : decode cX3_readFact 82 = .ok (.iload 4, 2) := by decide +kernel
theorem dX3_readFact_84 : decode cX3_readFact 84 = .ok (.if_icmp .ge 7, 3) := by decide +kernel
theorem dX3_readFact_87 : decode cX3_readFact 87 = .ok (.iconst 1, 1) := by decide +kernel
theorem dX3_readFact_88 : decode cX3_readFact 88 = .ok (.goto 18, 3) := by decide +kernel
theorem dX3_readFact_91 : decode cX3_readFact 91 = .ok (.iconst 0, 1) := by decide +kernel
theorem dX3_readFact_92 : decode cX3_readFact 92 = .ok (.goto 14, 3) := by decide +kernel
theorem dX3_readFact_95 : decode cX3_readFact 95 = .ok (.iload_n 2, 1) := by decide +kernel
theorem dX3_readFact_96 : decode cX3_readFact 96 = .ok (.iload 4, 2) := by decide +kernel
theorem dX3_readFact_98 : decode cX3_readFact 98 = .ok (.if_icmp .le 7, 3) := by decide +kernel
theorem dX3_readFact_101 : decode cX3_readFact 101 = .ok (.iconst 1, 1) := by decide +kernel
theorem dX3_readFact_102 : decode cX3_readFact 102 = .ok (.goto 4, 3) := by decide +kernel
theorem dX3_readFact_105 : decode cX3_readFact 105 = .ok (.iconst 0, 1) := by decide +kernel
theorem dX3_readFact_106 : decode cX3_readFact 106 = .ok (.ireturn, 1) := by decide +kernel
theorem dX4_init_0 : decode cX4_init 0 = .ok (.aload_n 0, 1) := by decide +kernel
theorem dX4_init_1 : decode cX4_init 1 = .ok (.invokespecial 1, 3) := by decide +kernel
theorem dX4_init_4 : decode cX4_init 4 = .ok (.aload_n 0, 1) := by decide +kernel
theorem dX4_init_5 : decode cX4_init 5 = .ok (.iload_n 1, 1) := by decide +kernel
theorem dX4_init_6 : decode cX4_init 6 = .ok (.putfield 7, 3) := by decide +kernel
theorem dX4_init_9 : decode cX4_init 9 = .ok (.aload_n 0, 1) := by decide +kernel
theorem dX4_init_10 : decode cX4_init 10 = .ok (.iload_n 2, 1) := by decide +kernel
theorem dX4_init_11 : decode cX4_init 11 = .ok (.putfield 13, 3) := by decide +kernel
theorem dX4_init_14 : decode cX4_init 14 = .ok (.aload_n 0, 1) := by decide +kernel
theorem dX4_init_15 : decode cX4_init 15 = .ok (.iload_n 3, 1) := by decide +kernel
theorem dX4_init_16 : decode cX4_init 16 = .ok (.putfield 16, 3) := by decide +kernel
theorem dX4_init_19 : decode cX4_init 19 = .ok (.aload_n 0, 1) := by decide +kernel
theorem dX4_init_20 : decode cX4_init 20 = .ok (.iload 4, 2) := by decide +kernel
theorem dX4_init_22 : decode cX4_init 22 = .ok (.putfield 19, 3) := by decide +kernel
theorem dX4_init_25 : decode cX4_init 25 = .ok (.aload_n 0, 1) := by decide +kernel
theorem dX4_init_26 : decode cX4_init 26 = .ok (.iload 5, 2) := by decide +kernel
theorem dX4_init_28 : decode cX4_init 28 = .ok (.putfield 22, 3) := by decide +kernel
theorem dX4_init_31 : decode cX4_init 31 = .ok (.return_, 1) := by decide +kernel
theorem dX4_unitsOn_0 : decode cX4_unitsOn 0 = .ok (.iload_n 1, 1) := by decide +kernel
theorem dX4_unitsOn_1 : decode cX4_unitsOn 1 = .ok (.aload_n 0, 1) := by decide +kernel
theorem dX4_unitsOn_2 : decode cX4_unitsOn 2 = .ok (.getfield 16, 3) := by decide +kernel
theorem dX4_unitsOn_5 : decode cX4_unitsOn 5 = .ok (.if_icmp .lt 11, 3) := by decide +kernel
theorem dX4_unitsOn_8 : decode cX4_unitsOn 8 = .ok (.iload_n 1, 1) := by decide +kernel
theorem dX4_unitsOn_9 : decode cX4_unitsOn 9 = .ok (.aload_n 0, 1) := by decide +kernel
theorem dX4_unitsOn_10 : decode cX4_unitsOn 10 = .ok (.getfield 19, 3) := by decide +kernel
theorem dX4_unitsOn_13 : decode cX4_unitsOn 13 = .ok (.if_icmp .le 5, 3) := by decide +kernel
theorem dX4_unitsOn_16 : decode cX4_unitsOn 16 = .ok (.iconst 0, 1) := by decide +kernel
theorem dX4_unitsOn_17 : decode cX4_unitsOn 17 = .ok (.ireturn, 1) := by decide +kernel
theorem dX4_unitsOn_18 : decode cX4_unitsOn 18 = .ok (.iload_n 1, 1) := by decide +kernel
theorem dX4_unitsOn_19 : decode cX4_unitsOn 19 = .ok (.aload_n 0, 1) := by decide +kernel
theorem dX4_unitsOn_20 : decode cX4_unitsOn 20 = .ok (.getfield 16, 3) := by decide +kernel
theorem dX4_unitsOn_23 : decode cX4_unitsOn 23 = .ok (.isub, 1) := by decide +kernel
theorem dX4_unitsOn_24 : decode cX4_unitsOn 24 = .ok (.aload_n 0, 1) := by decide +kernel
theorem dX4_unitsOn_25 : decode cX4_unitsOn 25 = .ok (.getfield 22, 3) := by decide +kernel
theorem dX4_unitsOn_28 : decode cX4_unitsOn 28 = .ok (.if_icmp .lt 7, 3) := by decide +kernel
theorem dX4_unitsOn_31 : decode cX4_unitsOn 31 = .ok (.iconst 1, 1) := by decide +kernel
theorem dX4_unitsOn_32 : decode cX4_unitsOn 32 = .ok (.goto 4, 3) := by decide +kernel
theorem dX4_unitsOn_35 : decode cX4_unitsOn 35 = .ok (.iconst 0, 1) := by decide +kernel
theorem dX4_unitsOn_36 : decode cX4_unitsOn 36 = .ok (.istore_n 2, 1) := by decide +kernel
theorem dX4_unitsOn_37 : decode cX4_unitsOn 37 = .ok (.iload_n 2, 1) := by decide +kernel
theorem dX4_unitsOn_38 : decode cX4_unitsOn 38 = .ok (.ifCond .eq 13, 3) := by decide +kernel
theorem dX4_unitsOn_41 : decode cX4_unitsOn 41 = .ok (.aload_n 0, 1) := by decide +kernel
theorem dX4_unitsOn_42 : decode cX4_unitsOn 42 = .ok (.getfield 13, 3) := by decide +kernel
theorem dX4_unitsOn_45 : decode cX4_unitsOn 45 = .ok (.bipush 8, 2) := by decide +kernel
theorem dX4_unitsOn_47 : decode cX4_unitsOn 47 = .ok (.imul, 1) := by decide +kernel
theorem dX4_unitsOn_48 : decode cX4_unitsOn 48 = .ok (.goto 10, 3) := by decide +kernel
theorem dX4_unitsOn_51 : decode cX4_unitsOn 51 = .ok (.aload_n 0, 1) := by decide +kernel
theorem dX4_unitsOn_52 : decode cX4_unitsOn 52 = .ok (.getfield 13, 3) := by decide +kernel
theorem dX4_unitsOn_55 : decode cX4_unitsOn 55 = .ok (.ineg, 1) := by decide +kernel
theorem dX4_unitsOn_56 : decode cX4_unitsOn 56 = .ok (.iconst 2, 1) := by decide +kernel
theorem dX4_unitsOn_57 : decode cX4_unitsOn 57 = .ok (.imul, 1) := by decide +kernel
theorem dX4_unitsOn_58 : decode cX4_unitsOn 58 = .ok (.ireturn, 1) := by decide +kernel
theorem dX5_init_0 : decode cX5_init 0 = .ok (.aload_n 0, 1) := by decide +kernel
theorem dX5_init_1 : decode cX5_init 1 = .ok (.invokespecial 3, 3) := by decide +kernel
theorem dX5_init_4 : decode cX5_init 4 = .ok (.aload_n 0, 1) := by decide +kernel
theorem dX5_init_5 : decode cX5_init 5 = .ok (.bipush 24, 2) := by decide +kernel
theorem dX5_init_7 : decode cX5_init 7 = .ok (.newarray .int, 2) := by decide +kernel
theorem dX5_init_9 : decode cX5_init 9 = .ok (.putfield 11, 3) := by decide +kernel
theorem dX5_init_12 : decode cX5_init 12 = .ok (.aload_n 0, 1) := by decide +kernel
theorem dX5_init_13 : decode cX5_init 13 = .ok (.iconst 0, 1) := by decide +kernel
theorem dX5_init_14 : decode cX5_init 14 = .ok (.putfield 15, 3) := by decide +kernel
theorem dX5_init_17 : decode cX5_init 17 = .ok (.aload_n 0, 1) := by decide +kernel
theorem dX5_init_18 : decode cX5_init 18 = .ok (.getfield 11, 3) := by decide +kernel
theorem dX5_init_21 : decode cX5_init 21 = .ok (.bipush 60, 2) := by decide +kernel
theorem dX5_init_23 : decode cX5_init 23 = .ok (.invokestatic 19, 3) := by decide +kernel
theorem dX5_init_26 : decode cX5_init 26 = .ok (.iconst 0, 1) := by decide +kernel
theorem dX5_init_27 : decode cX5_init 27 = .ok (.istore_n 2, 1) := by decide +kernel
theorem dX5_init_28 : decode cX5_init 28 = .ok (.iload_n 2, 1) := by decide +kernel
theorem dX5_init_29 : decode cX5_init 29 = .ok (.aload_n 1, 1) := by decide +kernel
theorem dX5_init_30 : decode cX5_init 30 = .ok (.arraylength, 1) := by decide +kernel
theorem dX5_init_31 : decode cX5_init 31 = .ok (.if_icmp .ge 16, 3) := by decide +kernel
theorem dX5_init_34 : decode cX5_init 34 = .ok (.aload_n 0, 1) := by decide +kernel
theorem dX5_init_35 : decode cX5_init 35 = .ok (.aload_n 1, 1) := by decide +kernel
theorem dX5_init_36 : decode cX5_init 36 = .ok (.iload_n 2, 1) := by decide +kernel
theorem dX5_init_37 : decode cX5_init 37 = .ok (.iaload, 1) := by decide +kernel
theorem dX5_init_38 : decode cX5_init 38 = .ok (.invokevirtual 25, 3) := by decide +kernel
theorem dX5_init_41 : decode cX5_init 41 = .ok (.iinc 2 1, 3) := by decide +kernel
theorem dX5_init_44 : decode cX5_init 44 = .ok (.goto (-16), 3) := by decide +kernel
theorem dX5_init_47 : decode cX5_init 47 = .ok (.return_, 1) := by decide +kernel
theorem dX5_firstWrong_0 : decode cX5_firstWrong 0 = .ok (.iconst 1, 1) := by decide +kernel
theorem dX5_firstWrong_1 : decode cX5_firstWrong 1 = .ok (.istore_n 1, 1) := by decide +kernel
theorem dX5_firstWrong_2 : decode cX5_firstWrong 2 = .ok (.iconst 0, 1) := by decide +kernel
theorem dX5_firstWrong_3 : decode cX5_firstWrong 3 = .ok (.istore_n 2, 1) := by decide +kernel
theorem dX5_firstWrong_4 : decode cX5_firstWrong 4 = .ok (.iload_n 2, 1) := by decide +kernel
theorem dX5_firstWrong_5 : decode cX5_firstWrong 5 = .ok (.aload_n 0, 1) := by decide +kernel
theorem dX5_firstWrong_6 : decode cX5_firstWrong 6 = .ok (.arraylength, 1) := by decide +kernel
theorem dX5_firstWrong_7 : decode cX5_firstWrong 7 = .ok (.if_icmp .ge 59, 3) := by decide +kernel
theorem dX5_firstWrong_10 : decode cX5_firstWrong 10 = .ok (.aload_n 0, 1) := by decide +kernel
theorem dX5_firstWrong_11 : decode cX5_firstWrong 11 = .ok (.iload_n 2, 1) := by decide +kernel
theorem dX5_firstWrong_12 : decode cX5_firstWrong 12 = .ok (.iaload, 1) := by decide +kernel
theorem dX5_firstWrong_13 : decode cX5_firstWrong 13 = .ok (.invokestatic 29, 3) := by decide +kernel
theorem dX5_firstWrong_16 : decode cX5_firstWrong 16 = .ok (.istore_n 3, 1) := by decide +kernel
theorem dX5_firstWrong_17 : decode cX5_firstWrong 17 = .ok (.iload_n 2, 1) := by decide +kernel
theorem dX5_firstWrong_18 : decode cX5_firstWrong 18 = .ok (.bipush 24, 2) := by decide +kernel
theorem dX5_firstWrong_20 : decode cX5_firstWrong 20 = .ok (.if_icmp .ge 11, 3) := by decide +kernel
theorem dX5_firstWrong_23 : decode cX5_firstWrong 23 = .ok (.iload_n 3, 1) := by decide +kernel
theorem dX5_firstWrong_24 : decode cX5_firstWrong 24 = .ok (.ifCond .eq 9, 3) := by decide +kernel
theorem dX5_firstWrong_27 : decode cX5_firstWrong 27 = .ok (.iload_n 1, 1) := by decide +kernel
theorem dX5_firstWrong_28 : decode cX5_firstWrong 28 = .ok (.ifCond .eq 5, 3) := by decide +kernel
theorem dX5_firstWrong_31 : decode cX5_firstWrong 31 = .ok (.iload_n 2, 1) := by decide +kernel
theorem dX5_firstWrong_32 : decode cX5_firstWrong 32 = .ok (.ireturn, 1) := by decide +kernel
theorem dX5_firstWrong_33 : decode cX5_firstWrong 33 = .ok (.iload_n 3, 1) := by decide +kernel
theorem dX5_firstWrong_34 : decode cX5_firstWrong 34 = .ok (.ifCond .ne 24, 3) := by decide +kernel
theorem dX5_firstWrong_37 : decode cX5_firstWrong 37 = .ok (.aload_n 0, 1) := by decide +kernel
theorem dX5_firstWrong_38 : decode cX5_firstWrong 38 = .ok (.iload_n 2, 1) := by decide +kernel
theorem dX5_firstWrong_39 : decode cX5_firstWrong 39 = .ok (.iaload, 1) := by decide +kernel
theorem dX5_firstWrong_40 : decode cX5_firstWrong 40 = .ok (.invokestatic 33, 3) := by decide +kernel
theorem dX5_firstWrong_43 : decode cX5_firstWrong 43 = .ok (.ifCond .ne 15, 3) := by decide +kernel
theorem dX5_firstWrong_46 : decode cX5_firstWrong 46 = .ok (.aload_n 0, 1) := by decide +kernel
theorem dX5_firstWrong_47 : decode cX5_firstWrong 47 = .ok (.iload_n 2, 1) := by decide +kernel
theorem dX5_firstWrong_48 : decode cX5_firstWrong 48 = .ok (.iaload, 1) := by decide +kernel
theorem dX5_firstWrong_49 : decode cX5_firstWrong 49 = .ok (.invokestatic 36, 3) := by decide +kernel
theorem dX5_firstWrong_52 : decode cX5_firstWrong 52 = .ok (.iconst (-1), 1) := by decide +kernel
theorem dX5_firstWrong_53 : decode cX5_firstWrong 53 = .ok (.if_icmp .ne 5, 3) := by decide +kernel
theorem dX5_firstWrong_56 : decode cX5_firstWrong 56 = .ok (.iload_n 2, 1) := by decide +kernel
theorem dX5_firstWrong_57 : decode cX5_firstWrong 57 = .ok (.ireturn, 1) := by decide +kernel
theorem dX5_firstWrong_58 : decode cX5_firstWrong 58 = .ok (.iload_n 3, 1) := by decide +kernel
theorem dX5_firstWrong_59 : decode cX5_firstWrong 59 = .ok (.istore_n 1, 1) := by decide +kernel
theorem dX5_firstWrong_60 : decode cX5_firstWrong 60 = .ok (.iinc 2 1, 3) := by decide +kernel
theorem dX5_firstWrong_63 : decode cX5_firstWrong 63 = .ok (.goto (-59), 3) := by decide +kernel
theorem dX5_firstWrong_66 : decode cX5_firstWrong 66 = .ok (.iload_n 1, 1) := by decide +kernel
theorem dX5_firstWrong_67 : decode cX5_firstWrong 67 = .ok (.ifCond .eq 8, 3) := by decide +kernel
theorem dX5_firstWrong_70 : decode cX5_firstWrong 70 = .ok (.aload_n 0, 1) := by decide +kernel
theorem dX5_firstWrong_71 : decode cX5_firstWrong 71 = .ok (.arraylength, 1) := by decide +kernel
theorem dX5_firstWrong_72 : decode cX5_firstWrong 72 = .ok (.goto 4, 3) := by decide +kernel
theorem dX5_firstWrong_75 : decode cX5_firstWrong 75 = .ok (.iconst (-1), 1) := by decide +kernel
theorem dX5_firstWrong_76 : decode cX5_firstWrong 76 = .ok (.ireturn, 1) := by decide +kernel
theorem dX5_isGap_0 : decode cX5_isGap 0 = .ok (.iload_n 0, 1) := by decide +kernel
theorem dX5_isGap_1 : decode cX5_isGap 1 = .ok (.bipush 32, 2) := by decide +kernel
theorem dX5_isGap_3 : decode cX5_isGap 3 = .ok (.if_icmp .eq 9, 3) := by decide +kernel
theorem dX5_isGap_6 : decode cX5_isGap 6 = .ok (.iload_n 0, 1) := by decide +kernel
theorem dX5_isGap_7 : decode cX5_isGap 7 = .ok (.bipush 45, 2) := by decide +kernel
theorem dX5_isGap_9 : decode cX5_isGap 9 = .ok (.if_icmp .ne 7, 3) := by decide +kernel
theorem dX5_isGap_12 : decode cX5_isGap 12 = .ok (.iconst 1, 1) := by decide +kernel
theorem dX5_isGap_13 : decode cX5_isGap 13 = .ok (.goto 4, 3) := by decide +kernel
theorem dX5_isGap_16 : decode cX5_isGap 16 = .ok (.iconst 0, 1) := by decide +kernel
theorem dX5_isGap_17 : decode cX5_isGap 17 = .ok (.ireturn, 1) := by decide +kernel
theorem dX5_isLetter_0 : decode cX5_isLetter 0 = .ok (.iload_n 0, 1) := by decide +kernel
theorem dX5_isLetter_1 : decode cX5_isLetter 1 = .ok (.bipush 97, 2) := by decide +kernel
theorem dX5_isLetter_3 : decode cX5_isLetter 3 = .ok (.if_icmp .lt 9, 3) := by decide +kernel
theorem dX5_isLetter_6 : decode cX5_isLetter 6 = .ok (.iload_n 0, 1) := by decide +kernel
theorem dX5_isLetter_7 : decode cX5_isLetter 7 = .ok (.bipush 122, 2) := by decide +kernel
theorem dX5_isLetter_9 : decode cX5_isLetter 9 = .ok (.if_icmp .le 15, 3) := by decide +kernel
theorem dX5_isLetter_12 : decode cX5_isLetter 12 = .ok (.iload_n 0, 1) := by decide +kernel
theorem dX5_isLetter_13 : decode cX5_isLetter 13 = .ok (.bipush 65, 2) := by decide +kernel
theorem dX5_isLetter_15 : decode cX5_isLetter 15 = .ok (.if_icmp .lt 13, 3) := by decide +kernel
theorem dX5_isLetter_18 : decode cX5_isLetter 18 = .ok (.iload_n 0, 1) := by decide +kernel
theorem dX5_isLetter_19 : decode cX5_isLetter 19 = .ok (.bipush 90, 2) := by decide +kernel
theorem dX5_isLetter_21 : decode cX5_isLetter 21 = .ok (.if_icmp .gt 7, 3) := by decide +kernel
theorem dX5_isLetter_24 : decode cX5_isLetter 24 = .ok (.iconst 1, 1) := by decide +kernel
theorem dX5_isLetter_25 : decode cX5_isLetter 25 = .ok (.goto 4, 3) := by decide +kernel
theorem dX5_isLetter_28 : decode cX5_isLetter 28 = .ok (.iconst 0, 1) := by decide +kernel
theorem dX5_isLetter_29 : decode cX5_isLetter 29 = .ok (.ireturn, 1) := by decide +kernel
theorem dX5_markedNumber_0 : decode cX5_markedNumber 0 = .ok (.iconst 0, 1) := by decide +kernel
theorem dX5_markedNumber_1 : decode cX5_markedNumber 1 = .ok (.istore_n 1, 1) := by decide +kernel
theorem dX5_markedNumber_2 : decode cX5_markedNumber 2 = .ok (.iload_n 1, 1) := by decide +kernel
theorem dX5_markedNumber_3 : decode cX5_markedNumber 3 = .ok (.getstatic 40, 3) := by decide +kernel
theorem dX5_markedNumber_6 : decode cX5_markedNumber 6 = .ok (.arraylength, 1) := by decide +kernel
theorem dX5_markedNumber_7 : decode cX5_markedNumber 7 = .ok (.if_icmp .ge 20, 3) := by decide +kernel
theorem dX5_markedNumber_10 : decode cX5_markedNumber 10 = .ok (.getstatic 40, 3) := by decide +kernel
theorem dX5_markedNumber_13 : decode cX5_markedNumber 13 = .ok (.iload_n 1, 1) := by decide +kernel
theorem dX5_markedNumber_14 : decode cX5_markedNumber 14 = .ok (.iaload, 1) := by decide +kernel
theorem dX5_markedNumber_15 : decode cX5_markedNumber 15 = .ok (.iload_n 0, 1) := by decide +kernel
theorem dX5_markedNumber_16 : decode cX5_markedNumber 16 = .ok (.if_icmp .ne 5, 3) := by decide +kernel
theorem dX5_markedNumber_19 : decode cX5_markedNumber 19 = .ok (.iload_n 1, 1) := by decide +kernel
theorem dX5_markedNumber_20 : decode cX5_markedNumber 20 = .ok (.ireturn, 1) := by decide +kernel
theorem dX5_markedNumber_21 : decode cX5_markedNumber 21 = .ok (.iinc 1 1, 3) := by decide +kernel
theorem dX5_markedNumber_24 : decode cX5_markedNumber 24 = .ok (.goto (-22), 3) := by decide +kernel
theorem dX5_markedNumber_27 : decode cX5_markedNumber 27 = .ok (.iconst (-1), 1) := by decide +kernel
theorem dX5_markedNumber_28 : decode cX5_markedNumber 28 = .ok (.ireturn, 1) := by decide +kernel
theorem dX5_write_0 : decode cX5_write 0 = .ok (.iload_n 1, 1) := by decide +kernel
theorem dX5_write_1 : decode cX5_write 1 = .ok (.invokestatic 36, 3) := by decide +kernel
theorem dX5_write_4 : decode cX5_write 4 = .ok (.istore_n 2, 1) := by decide +kernel
theorem dX5_write_5 : decode cX5_write 5 = .ok (.iload_n 2, 1) := by decide +kernel
theorem dX5_write_6 : decode cX5_write 6 = .ok (.ifCond .lt 55, 3) := by decide +kernel
theorem dX5_write_9 : decode cX5_write 9 = .ok (.iload_n 2, 1) := by decide +kernel
theorem dX5_write_10 : decode cX5_write 10 = .ok (.ldc 43, 2) := by decide +kernel
theorem dX5_write_12 : decode cX5_write 12 = .ok (.invokevirtual 45, 3) := by decide +kernel
theorem dX5_write_15 : decode cX5_write 15 = .ok (.if_icmp .ge 46, 3) := by decide +kernel
theorem dX5_write_18 : decode cX5_write 18 = .ok (.iload_n 2, 1) := by decide +kernel
theorem dX5_write_19 : decode cX5_write 19 = .ok (.ldc 50, 2) := by decide +kernel
theorem dX5_write_21 : decode cX5_write 21 = .ok (.invokevirtual 45, 3) := by decide +kernel
theorem dX5_write_24 : decode cX5_write 24 = .ok (.if_icmp .ge 37, 3) := by decide +kernel
theorem dX5_write_27 : decode cX5_write 27 = .ok (.aload_n 0, 1) := by decide +kernel
theorem dX5_write_28 : decode cX5_write 28 = .ok (.ldc 43, 2) := by decide +kernel
theorem dX5_write_30 : decode cX5_write 30 = .ok (.iload_n 2, 1) := by decide +kernel
theorem dX5_write_31 : decode cX5_write 31 = .ok (.invokevirtual 52, 3) := by decide +kernel
theorem dX5_write_34 : decode cX5_write 34 = .ok (.invokevirtual 56, 3) := by decide +kernel
theorem dX5_write_37 : decode cX5_write 37 = .ok (.ldc 50, 2) := by decide +kernel
theorem dX5_write_39 : decode cX5_write 39 = .ok (.iload_n 2, 1) := by decide +kernel
theorem dX5_write_40 : decode cX5_write 40 = .ok (.invokevirtual 52, 3) := by decide +kernel
theorem dX5_write_43 : decode cX5_write 43 = .ok (.bipush 32, 2) := by decide +kernel
theorem dX5_write_45 : decode cX5_write 45 = .ok (.if_icmp .eq 53, 3) := by decide +kernel
theorem dX5_write_48 : decode cX5_write 48 = .ok (.aload_n 0, 1) := by decide +kernel
theorem dX5_write_49 : decode cX5_write 49 = .ok (.ldc 50, 2) := by decide +kernel
theorem dX5_write_51 : decode cX5_write 51 = .ok (.iload_n 2, 1) := by decide +kernel
theorem dX5_write_52 : decode cX5_write 52 = .ok (.invokevirtual 52, 3) := by decide +kernel
theorem dX5_write_55 : decode cX5_write 55 = .ok (.invokevirtual 56, 3) := by decide +kernel
theorem dX5_write_58 : decode cX5_write 58 = .ok (.goto 40, 3) := by decide +kernel
theorem dX5_write_61 : decode cX5_write 61 = .ok (.iload_n 1, 1) := by decide +kernel
theorem dX5_write_62 : decode cX5_write 62 = .ok (.invokestatic 29, 3) := by decide +kernel
theorem dX5_write_65 : decode cX5_write 65 = .ok (.ifCond .eq 12, 3) := by decide +kernel
theorem dX5_write_68 : decode cX5_write 68 = .ok (.aload_n 0, 1) := by decide +kernel
theorem dX5_write_69 : decode cX5_write 69 = .ok (.bipush 60, 2) := by decide +kernel
theorem dX5_write_71 : decode cX5_write 71 = .ok (.invokevirtual 56, 3) := by decide +kernel
theorem dX5_write_74 : decode cX5_write 74 = .ok (.goto 24, 3) := by decide +kernel
theorem dX5_write_77 : decode cX5_write 77 = .ok (.aload_n 0, 1) := by decide +kernel
theorem dX5_write_78 : decode cX5_write 78 = .ok (.iload_n 1, 1) := by decide +kernel
theorem dX5_write_79 : decode cX5_write 79 = .ok (.bipush 97, 2) := by decide +kernel
theorem dX5_write_81 : decode cX5_write 81 = .ok (.if_icmp .lt 13, 3) := by decide +kernel
theorem dX5_write_84 : decode cX5_write 84 = .ok (.iload_n 1, 1) := by decide +kernel
theorem dX5_write_85 : decode cX5_write 85 = .ok (.bipush 97, 2) := by decide +kernel
theorem dX5_write_87 : decode cX5_write 87 = .ok (.isub, 1) := by decide +kernel
theorem dX5_write_88 : decode cX5_write 88 = .ok (.bipush 65, 2) := by decide +kernel
theorem dX5_write_90 : decode cX5_write 90 = .ok (.iadd, 1) := by decide +kernel
theorem dX5_write_91 : decode cX5_write 91 = .ok (.goto 4, 3) := by decide +kernel
theorem dX5_write_94 : decode cX5_write 94 = .ok (.iload_n 1, 1) := by decide +kernel
theorem dX5_write_95 : decode cX5_write 95 = .ok (.invokevirtual 56, 3) := by decide +kernel
theorem dX5_write_98 : decode cX5_write 98 = .ok (.return_, 1) := by decide +kernel
theorem dX5_append_0 : decode cX5_append 0 = .ok (.aload_n 0, 1) := by decide +kernel
theorem dX5_append_1 : decode cX5_append 1 = .ok (.getfield 15, 3) := by decide +kernel
theorem dX5_append_4 : decode cX5_append 4 = .ok (.bipush 24, 2) := by decide +kernel
theorem dX5_append_6 : decode cX5_append 6 = .ok (.if_icmp .ge 13, 3) := by decide +kernel
theorem dX5_append_9 : decode cX5_append 9 = .ok (.aload_n 0, 1) := by decide +kernel
theorem dX5_append_10 : decode cX5_append 10 = .ok (.getfield 11, 3) := by decide +kernel
theorem dX5_append_13 : decode cX5_append 13 = .ok (.aload_n 0, 1) := by decide +kernel
theorem dX5_append_14 : decode cX5_append 14 = .ok (.getfield 15, 3) := by decide +kernel
theorem dX5_append_17 : decode cX5_append 17 = .ok (.iload_n 1, 1) := by decide +kernel
theorem dX5_append_18 : decode cX5_append 18 = .ok (.iastore, 1) := by decide +kernel
theorem dX5_append_19 : decode cX5_append 19 = .ok (.aload_n 0, 1) := by decide +kernel
theorem dX5_append_20 : decode cX5_append 20 = .ok (.dup, 1) := by decide +kernel
theorem dX5_append_21 : decode cX5_append 21 = .ok (.getfield 15, 3) := by decide +kernel
theorem dX5_append_24 : decode cX5_append 24 = .ok (.iconst 1, 1) := by decide +kernel
theorem dX5_append_25 : decode cX5_append 25 = .ok (.iadd, 1) := by decide +kernel
theorem dX5_append_26 : decode cX5_append 26 = .ok (.putfield 15, 3) := by decide +kernel
theorem dX5_append_29 : decode cX5_append 29 = .ok (.return_, 1) := by decide +kernel
theorem dX5_checkFigure_0 : decode cX5_checkFigure 0 = .ok (.iconst 0, 1) := by decide +kernel
theorem dX5_checkFigure_1 : decode cX5_checkFigure 1 = .ok (.istore_n 1, 1) := by decide +kernel
theorem dX5_checkFigure_2 : decode cX5_checkFigure 2 = .ok (.iconst 0, 1) := by decide +kernel
theorem dX5_checkFigure_3 : decode cX5_checkFigure 3 = .ok (.istore_n 2, 1) := by decide +kernel
theorem dX5_checkFigure_4 : decode cX5_checkFigure 4 = .ok (.iload_n 2, 1) := by decide +kernel
theorem dX5_checkFigure_5 : decode cX5_checkFigure 5 = .ok (.bipush 24, 2) := by decide +kernel
theorem dX5_checkFigure_7 : decode cX5_checkFigure 7 = .ok (.if_icmp .ge 52, 3) := by decide +kernel
theorem dX5_checkFigure_10 : decode cX5_checkFigure 10 = .ok (.aload_n 0, 1) := by decide +kernel
theorem dX5_checkFigure_11 : decode cX5_checkFigure 11 = .ok (.getfield 11, 3) := by decide +kernel
theorem dX5_checkFigure_14 : decode cX5_checkFigure 14 = .ok (.iload_n 2, 1) := by decide +kernel
theorem dX5_checkFigure_15 : decode cX5_checkFigure 15 = .ok (.iaload, 1) := by decide +kernel
theorem dX5_checkFigure_16 : decode cX5_checkFigure 16 = .ok (.bipush 60, 2) := by decide +kernel
theorem dX5_checkFigure_18 : decode cX5_checkFigure 18 = .ok (.if_icmp .ne 7, 3) := by decide +kernel
theorem dX5_checkFigure_21 : decode cX5_checkFigure 21 = .ok (.iconst 0, 1) := by decide +kernel
theorem dX5_checkFigure_22 : decode cX5_checkFigure 22 = .ok (.goto 15, 3) := by decide +kernel
theorem dX5_checkFigure_25 : decode cX5_checkFigure 25 = .ok (.aload_n 0, 1) := by decide +kernel
theorem dX5_checkFigure_26 : decode cX5_checkFigure 26 = .ok (.getfield 11, 3) := by decide +kernel
theorem dX5_checkFigure_29 : decode cX5_checkFigure 29 = .ok (.iload_n 2, 1) := by decide +kernel
theorem dX5_checkFigure_30 : decode cX5_checkFigure 30 = .ok (.iaload, 1) := by decide +kernel
theorem dX5_checkFigure_31 : decode cX5_checkFigure 31 = .ok (.bipush 65, 2) := by decide +kernel
theorem dX5_checkFigure_33 : decode cX5_checkFigure 33 = .ok (.isub, 1) := by decide +kernel
theorem dX5_checkFigure_34 : decode cX5_checkFigure 34 = .ok (.bipush 10, 2) := by decide +kernel
theorem dX5_checkFigure_36 : decode cX5_checkFigure 36 = .ok (.iadd, 1) := by decide +kernel
theorem dX5_checkFigure_37 : decode cX5_checkFigure 37 = .ok (.istore_n 3, 1) := by decide +kernel
theorem dX5_checkFigure_38 : decode cX5_checkFigure 38 = .ok (.iload_n 1, 1) := by decide +kernel
theorem dX5_checkFigure_39 : decode cX5_checkFigure 39 = .ok (.iload_n 3, 1) := by decide +kernel
theorem dX5_checkFigure_40 : decode cX5_checkFigure 40 = .ok (.getstatic 59, 3) := by decide +kernel
theorem dX5_checkFigure_43 : decode cX5_checkFigure 43 = .ok (.iload_n 2, 1) := by decide +kernel
theorem dX5_checkFigure_44 : decode cX5_checkFigure 44 = .ok (.getstatic 59, 3) := by decide +kernel
theorem dX5_checkFigure_47 : decode cX5_checkFigure 47 = .ok (.arraylength, 1) := by decide +kernel
theorem dX5_checkFigure_48 : decode cX5_checkFigure 48 = .ok (.irem, 1) := by decide +kernel
theorem dX5_checkFigure_49 : decode cX5_checkFigure 49 = .ok (.iaload, 1) := by decide +kernel
theorem dX5_checkFigure_50 : decode cX5_checkFigure 50 = .ok (.imul, 1) := by decide +kernel
theorem dX5_checkFigure_51 : decode cX5_checkFigure 51 = .ok (.iadd, 1) := by decide +kernel
theorem dX5_checkFigure_52 : decode cX5_checkFigure 52 = .ok (.istore_n 1, 1) := by decide +kernel
theorem dX5_checkFigure_53 : decode cX5_checkFigure 53 = .ok (.iinc 2 1, 3) := by decide +kernel
theorem dX5_checkFigure_56 : decode cX5_checkFigure 56 = .ok (.goto (-52), 3) := by decide +kernel
theorem dX5_checkFigure_59 : decode cX5_checkFigure 59 = .ok (.iload_n 1, 1) := by decide +kernel
theorem dX5_checkFigure_60 : decode cX5_checkFigure 60 = .ok (.bipush 10, 2) := by decide +kernel
theorem dX5_checkFigure_62 : decode cX5_checkFigure 62 = .ok (.irem, 1) := by decide +kernel
theorem dX5_checkFigure_63 : decode cX5_checkFigure 63 = .ok (.ireturn, 1) := by decide +kernel
theorem dX7_init_0 : decode cX7_init 0 = .ok (.aload_n 0, 1) := by decide +kernel
theorem dX7_init_1 : decode cX7_init 1 = .ok (.invokespecial 1, 3) := by decide +kernel
theorem dX7_init_4 : decode cX7_init 4 = .ok (.aload_n 0, 1) := by decide +kernel
theorem dX7_init_5 : decode cX7_init 5 = .ok (.new 7, 3) := by decide +kernel
theorem dX7_init_8 : decode cX7_init 8 = .ok (.dup, 1) := by decide +kernel
theorem dX7_init_9 : decode cX7_init 9 = .ok (.invokespecial 9, 3) := by decide +kernel
theorem dX7_init_12 : decode cX7_init 12 = .ok (.putfield 10, 3) := by decide +kernel
theorem dX7_init_15 : decode cX7_init 15 = .ok (.return_, 1) := by decide +kernel
theorem dX7_isNearOne_0 : decode cX7_isNearOne 0 = .ok (.iconst 0, 1) := by decide +kernel
theorem dX7_isNearOne_1 : decode cX7_isNearOne 1 = .ok (.istore 4, 2) := by decide +kernel
theorem dX7_isNearOne_3 : decode cX7_isNearOne 3 = .ok (.iload 4, 2) := by decide +kernel
theorem dX7_isNearOne_5 : decode cX7_isNearOne 5 = .ok (.aload_n 0, 1) := by decide +kernel
theorem dX7_isNearOne_6 : decode cX7_isNearOne 6 = .ok (.getfield 10, 3) := by decide +kernel
theorem dX7_isNearOne_9 : decode cX7_isNearOne 9 = .ok (.invokevirtual 16, 3) := by decide +kernel
theorem dX7_isNearOne_12 : decode cX7_isNearOne 12 = .ok (.if_icmp .ge 66, 3) := by decide +kernel
theorem dX7_isNearOne_15 : decode cX7_isNearOne 15 = .ok (.aload_n 0, 1) := by decide +kernel
theorem dX7_isNearOne_16 : decode cX7_isNearOne 16 = .ok (.getfield 10, 3) := by decide +kernel
theorem dX7_isNearOne_19 : decode cX7_isNearOne 19 = .ok (.iload 4, 2) := by decide +kernel
theorem dX7_isNearOne_21 : decode cX7_isNearOne 21 = .ok (.invokevirtual 20, 3) := by decide +kernel
theorem dX7_isNearOne_24 : decode cX7_isNearOne 24 = .ok (.checkcast 24, 3) := by decide +kernel
theorem dX7_isNearOne_27 : decode cX7_isNearOne 27 = .ok (.astore 5, 2) := by decide +kernel
theorem dX7_isNearOne_29 : decode cX7_isNearOne 29 = .ok (.iload 4, 2) := by decide +kernel
theorem dX7_isNearOne_31 : decode cX7_isNearOne 31 = .ok (.aload_n 1, 1) := by decide +kernel
theorem dX7_isNearOne_32 : decode cX7_isNearOne 32 = .ok (.getfield 26, 3) := by decide +kernel
theorem dX7_isNearOne_35 : decode cX7_isNearOne 35 = .ok (.if_icmp .eq 17, 3) := by decide +kernel
theorem dX7_isNearOne_38 : decode cX7_isNearOne 38 = .ok (.aload_n 1, 1) := by decide +kernel
theorem dX7_isNearOne_39 : decode cX7_isNearOne 39 = .ok (.aload 5, 2) := by decide +kernel
theorem dX7_isNearOne_41 : decode cX7_isNearOne 41 = .ok (.invokevirtual 30, 3) := by decide +kernel
theorem dX7_isNearOne_44 : decode cX7_isNearOne 44 = .ok (.iload_n 2, 1) := by decide +kernel
theorem dX7_isNearOne_45 : decode cX7_isNearOne 45 = .ok (.if_icmp .ne 7, 3) := by decide +kernel
theorem dX7_isNearOne_48 : decode cX7_isNearOne 48 = .ok (.iconst 1, 1) := by decide +kernel
theorem dX7_isNearOne_49 : decode cX7_isNearOne 49 = .ok (.goto 4, 3) := by decide +kernel
theorem dX7_isNearOne_52 : decode cX7_isNearOne 52 = .ok (.iconst 0, 1) := by decide +kernel
theorem dX7_isNearOne_53 : decode cX7_isNearOne 53 = .ok (.istore 6, 2) := by decide +kernel
theorem dX7_isNearOne_55 : decode cX7_isNearOne 55 = .ok (.iload 6, 2) := by decide +kernel
theorem dX7_isNearOne_57 : decode cX7_isNearOne 57 = .ok (.ifCond .eq 15, 3) := by decide +kernel
theorem dX7_isNearOne_60 : decode cX7_isNearOne 60 = .ok (.aload_n 1, 1) := by decide +kernel
theorem dX7_isNearOne_61 : decode cX7_isNearOne 61 = .ok (.aload 5, 2) := by decide +kernel
theorem dX7_isNearOne_63 : decode cX7_isNearOne 63 = .ok (.invokevirtual 34, 3) := by decide +kernel
theorem dX7_isNearOne_66 : decode cX7_isNearOne 66 = .ok (.iload_n 3, 1) := by decide +kernel
theorem dX7_isNearOne_67 : decode cX7_isNearOne 67 = .ok (.if_icmp .gt 5, 3) := by decide +kernel
theorem dX7_isNearOne_70 : decode cX7_isNearOne 70 = .ok (.iconst 1, 1) := by decide +kernel
theorem dX7_isNearOne_71 : decode cX7_isNearOne 71 = .ok (.ireturn, 1) := by decide +kernel
theorem dX7_isNearOne_72 : decode cX7_isNearOne 72 = .ok (.iinc 4 1, 3) := by decide +kernel
theorem dX7_isNearOne_75 : decode cX7_isNearOne 75 = .ok (.goto (-72), 3) := by decide +kernel
theorem dX7_isNearOne_78 : decode cX7_isNearOne 78 = .ok (.iconst 0, 1) := by decide +kernel
theorem dX7_isNearOne_79 : decode cX7_isNearOne 79 = .ok (.ireturn, 1) := by decide +kernel
theorem dX8_init_0 : decode cX8_init 0 = .ok (.aload_n 0, 1) := by decide +kernel
theorem dX8_init_1 : decode cX8_init 1 = .ok (.invokespecial 3, 3) := by decide +kernel
theorem dX8_init_4 : decode cX8_init 4 = .ok (.aload_n 0, 1) := by decide +kernel
theorem dX8_init_5 : decode cX8_init 5 = .ok (.aconst_null, 1) := by decide +kernel
theorem dX8_init_6 : decode cX8_init 6 = .ok (.putfield 9, 3) := by decide +kernel
theorem dX8_init_9 : decode cX8_init 9 = .ok (.aload_n 0, 1) := by decide +kernel
theorem dX8_init_10 : decode cX8_init 10 = .ok (.bipush 80, 2) := by decide +kernel
theorem dX8_init_12 : decode cX8_init 12 = .ok (.newarray .int, 2) := by decide +kernel
theorem dX8_init_14 : decode cX8_init 14 = .ok (.putfield 15, 3) := by decide +kernel
theorem dX8_init_17 : decode cX8_init 17 = .ok (.aload_n 0, 1) := by decide +kernel
theorem dX8_init_18 : decode cX8_init 18 = .ok (.iload_n 1, 1) := by decide +kernel
theorem dX8_init_19 : decode cX8_init 19 = .ok (.putfield 19, 3) := by decide +kernel
theorem dX8_init_22 : decode cX8_init 22 = .ok (.aload_n 0, 1) := by decide +kernel
theorem dX8_init_23 : decode cX8_init 23 = .ok (.iload_n 2, 1) := by decide +kernel
theorem dX8_init_24 : decode cX8_init 24 = .ok (.putfield 23, 3) := by decide +kernel
theorem dX8_init_27 : decode cX8_init 27 = .ok (.aload_n 0, 1) := by decide +kernel
theorem dX8_init_28 : decode cX8_init 28 = .ok (.iload_n 3, 1) := by decide +kernel
theorem dX8_init_29 : decode cX8_init 29 = .ok (.putfield 26, 3) := by decide +kernel
theorem dX8_init_32 : decode cX8_init 32 = .ok (.aload_n 0, 1) := by decide +kernel
theorem dX8_init_33 : decode cX8_init 33 = .ok (.aload 4, 2) := by decide +kernel
theorem dX8_init_35 : decode cX8_init 35 = .ok (.putfield 30, 3) := by decide +kernel
theorem dX8_init_38 : decode cX8_init 38 = .ok (.return_, 1) := by decide +kernel
theorem dX8_farFrom_0 : decode cX8_farFrom 0 = .ok (.iconst 0, 1) := by decide +kernel
theorem dX8_farFrom_1 : decode cX8_farFrom 1 = .ok (.istore_n 2, 1) := by decide +kernel
theorem dX8_farFrom_2 : decode cX8_farFrom 2 = .ok (.iconst 0, 1) := by decide +kernel
theorem dX8_farFrom_3 : decode cX8_farFrom 3 = .ok (.istore_n 3, 1) := by decide +kernel
theorem dX8_farFrom_4 : decode cX8_farFrom 4 = .ok (.iload_n 3, 1) := by decide +kernel
theorem dX8_farFrom_5 : decode cX8_farFrom 5 = .ok (.aload_n 0, 1) := by decide +kernel
theorem dX8_farFrom_6 : decode cX8_farFrom 6 = .ok (.getfield 30, 3) := by decide +kernel
theorem dX8_farFrom_9 : decode cX8_farFrom 9 = .ok (.arraylength, 1) := by decide +kernel
theorem dX8_farFrom_10 : decode cX8_farFrom 10 = .ok (.if_icmp .ge 41, 3) := by decide +kernel
theorem dX8_farFrom_13 : decode cX8_farFrom 13 = .ok (.iload_n 3, 1) := by decide +kernel
theorem dX8_farFrom_14 : decode cX8_farFrom 14 = .ok (.aload_n 1, 1) := by decide +kernel
theorem dX8_farFrom_15 : decode cX8_farFrom 15 = .ok (.getfield 30, 3) := by decide +kernel
theorem dX8_farFrom_18 : decode cX8_farFrom 18 = .ok (.arraylength, 1) := by decide +kernel
theorem dX8_farFrom_19 : decode cX8_farFrom 19 = .ok (.if_icmp .ge 32, 3) := by decide +kernel
theorem dX8_farFrom_22 : decode cX8_farFrom 22 = .ok (.aload_n 0, 1) := by decide +kernel
theorem dX8_farFrom_23 : decode cX8_farFrom 23 = .ok (.getfield 30, 3) := by decide +kernel
theorem dX8_farFrom_26 : decode cX8_farFrom 26 = .ok (.iload_n 3, 1) := by decide +kernel
theorem dX8_farFrom_27 : decode cX8_farFrom 27 = .ok (.iaload, 1) := by decide +kernel
theorem dX8_farFrom_28 : decode cX8_farFrom 28 = .ok (.aload_n 1, 1) := by decide +kernel
theorem dX8_farFrom_29 : decode cX8_farFrom 29 = .ok (.getfield 30, 3) := by decide +kernel
theorem dX8_farFrom_32 : decode cX8_farFrom 32 = .ok (.iload_n 3, 1) := by decide +kernel
theorem dX8_farFrom_33 : decode cX8_farFrom 33 = .ok (.iaload, 1) := by decide +kernel
theorem dX8_farFrom_34 : decode cX8_farFrom 34 = .ok (.isub, 1) := by decide +kernel
theorem dX8_farFrom_35 : decode cX8_farFrom 35 = .ok (.istore 4, 2) := by decide +kernel
theorem dX8_farFrom_37 : decode cX8_farFrom 37 = .ok (.iload_n 2, 1) := by decide +kernel
theorem dX8_farFrom_38 : decode cX8_farFrom 38 = .ok (.iload 4, 2) := by decide +kernel
theorem dX8_farFrom_40 : decode cX8_farFrom 40 = .ok (.iload 4, 2) := by decide +kernel
theorem dX8_farFrom_42 : decode cX8_farFrom 42 = .ok (.imul, 1) := by decide +kernel
theorem dX8_farFrom_43 : decode cX8_farFrom 43 = .ok (.iadd, 1) := by decide +kernel
theorem dX8_farFrom_44 : decode cX8_farFrom 44 = .ok (.istore_n 2, 1) := by decide +kernel
theorem dX8_farFrom_45 : decode cX8_farFrom 45 = .ok (.iinc 3 1, 3) := by decide +kernel
theorem dX8_farFrom_48 : decode cX8_farFrom 48 = .ok (.goto (-44), 3) := by decide +kernel
theorem dX8_farFrom_51 : decode cX8_farFrom 51 = .ok (.iload_n 2, 1) := by decide +kernel
theorem dX8_farFrom_52 : decode cX8_farFrom 52 = .ok (.ireturn, 1) := by decide +kernel
theorem dX8_putTold_0 : decode cX8_putTold 0 = .ok (.aload_n 1, 1) := by decide +kernel
theorem dX8_putTold_1 : decode cX8_putTold 1 = .ok (.getfield 19, 3) := by decide +kernel
theorem dX8_putTold_4 : decode cX8_putTold 4 = .ok (.ifCond .lt 25, 3) := by decide +kernel
theorem dX8_putTold_7 : decode cX8_putTold 7 = .ok (.aload_n 1, 1) := by decide +kernel
theorem dX8_putTold_8 : decode cX8_putTold 8 = .ok (.getfield 19, 3) := by decide +kernel
theorem dX8_putTold_11 : decode cX8_putTold 11 = .ok (.aload_n 0, 1) := by decide +kernel
theorem dX8_putTold_12 : decode cX8_putTold 12 = .ok (.getfield 15, 3) := by decide +kernel
theorem dX8_putTold_15 : decode cX8_putTold 15 = .ok (.arraylength, 1) := by decide +kernel
theorem dX8_putTold_16 : decode cX8_putTold 16 = .ok (.if_icmp .ge 13, 3) := by decide +kernel
theorem dX8_putTold_19 : decode cX8_putTold 19 = .ok (.aload_n 0, 1) := by decide +kernel
theorem dX8_putTold_20 : decode cX8_putTold 20 = .ok (.getfield 15, 3) := by decide +kernel
theorem dX8_putTold_23 : decode cX8_putTold 23 = .ok (.aload_n 1, 1) := by decide +kernel
theorem dX8_putTold_24 : decode cX8_putTold 24 = .ok (.getfield 19, 3) := by decide +kernel
theorem dX8_putTold_27 : decode cX8_putTold 27 = .ok (.iload_n 2, 1) := by decide +kernel
theorem dX8_putTold_28 : decode cX8_putTold 28 = .ok (.iastore, 1) := by decide +kernel
theorem dX8_putTold_29 : decode cX8_putTold 29 = .ok (.return_, 1) := by decide +kernel
theorem dX8_toldWith_0 : decode cX8_toldWith 0 = .ok (.aload_n 1, 1) := by decide +kernel
theorem dX8_toldWith_1 : decode cX8_toldWith 1 = .ok (.getfield 19, 3) := by decide +kernel
theorem dX8_toldWith_4 : decode cX8_toldWith 4 = .ok (.ifCond .lt 19, 3) := by decide +kernel
theorem dX8_toldWith_7 : decode cX8_toldWith 7 = .ok (.aload_n 1, 1) := by decide +kernel
theorem dX8_toldWith_8 : decode cX8_toldWith 8 = .ok (.getfield 19, 3) := by decide +kernel
theorem dX8_toldWith_11 : decode cX8_toldWith 11 = .ok (.aload_n 0, 1) := by decide +kernel
theorem dX8_toldWith_12 : decode cX8_toldWith 12 = .ok (.getfield 15, 3) := by decide +kernel
theorem dX8_toldWith_15 : decode cX8_toldWith 15 = .ok (.arraylength, 1) := by decide +kernel
theorem dX8_toldWith_16 : decode cX8_toldWith 16 = .ok (.if_icmp .ge 7, 3) := by decide +kernel
theorem dX8_toldWith_19 : decode cX8_toldWith 19 = .ok (.iconst 1, 1) := by decide +kernel
theorem dX8_toldWith_20 : decode cX8_toldWith 20 = .ok (.goto 4, 3) := by decide +kernel
theorem dX8_toldWith_23 : decode cX8_toldWith 23 = .ok (.iconst 0, 1) := by decide +kernel
theorem dX8_toldWith_24 : decode cX8_toldWith 24 = .ok (.istore_n 2, 1) := by decide +kernel
theorem dX8_toldWith_25 : decode cX8_toldWith 25 = .ok (.iload_n 2, 1) := by decide +kernel
theorem dX8_toldWith_26 : decode cX8_toldWith 26 = .ok (.ifCond .eq 15, 3) := by decide +kernel
theorem dX8_toldWith_29 : decode cX8_toldWith 29 = .ok (.aload_n 0, 1) := by decide +kernel
theorem dX8_toldWith_30 : decode cX8_toldWith 30 = .ok (.getfield 15, 3) := by decide +kernel
theorem dX8_toldWith_33 : decode cX8_toldWith 33 = .ok (.aload_n 1, 1) := by decide +kernel
theorem dX8_toldWith_34 : decode cX8_toldWith 34 = .ok (.getfield 19, 3) := by decide +kernel
theorem dX8_toldWith_37 : decode cX8_toldWith 37 = .ok (.iaload, 1) := by decide +kernel
theorem dX8_toldWith_38 : decode cX8_toldWith 38 = .ok (.goto 4, 3) := by decide +kernel
theorem dX8_toldWith_41 : decode cX8_toldWith 41 = .ok (.iconst 0, 1) := by decide +kernel
theorem dX8_toldWith_42 : decode cX8_toldWith 42 = .ok (.ireturn, 1) := by decide +kernel
theorem dX9_init_0 : decode cX9_init 0 = .ok (.aload_n 0, 1) := by decide +kernel
theorem dX9_init_1 : decode cX9_init 1 = .ok (.invokespecial 1, 3) := by decide +kernel
theorem dX9_init_4 : decode cX9_init 4 = .ok (.aload_n 0, 1) := by decide +kernel
theorem dX9_init_5 : decode cX9_init 5 = .ok (.bipush 20, 2) := by decide +kernel
theorem dX9_init_7 : decode cX9_init 7 = .ok (.putfield 7, 3) := by decide +kernel
theorem dX9_init_10 : decode cX9_init 10 = .ok (.aload_n 0, 1) := by decide +kernel
theorem dX9_init_11 : decode cX9_init 11 = .ok (.bipush 30, 2) := by decide +kernel
theorem dX9_init_13 : decode cX9_init 13 = .ok (.putfield 13, 3) := by decide +kernel
theorem dX9_init_16 : decode cX9_init 16 = .ok (.aload_n 0, 1) := by decide +kernel
theorem dX9_init_17 : decode cX9_init 17 = .ok (.bipush 10, 2) := by decide +kernel
theorem dX9_init_19 : decode cX9_init 19 = .ok (.putfield 16, 3) := by decide +kernel
theorem dX9_init_22 : decode cX9_init 22 = .ok (.aload_n 0, 1) := by decide +kernel
theorem dX9_init_23 : decode cX9_init 23 = .ok (.iconst 2, 1) := by decide +kernel
theorem dX9_init_24 : decode cX9_init 24 = .ok (.putfield 19, 3) := by decide +kernel
theorem dX9_init_27 : decode cX9_init 27 = .ok (.aload_n 0, 1) := by decide +kernel
theorem dX9_init_28 : decode cX9_init 28 = .ok (.bipush 9, 2) := by decide +kernel
theorem dX9_init_30 : decode cX9_init 30 = .ok (.putfield 22, 3) := by decide +kernel
theorem dX9_init_33 : decode cX9_init 33 = .ok (.aload_n 0, 1) := by decide +kernel
theorem dX9_init_34 : decode cX9_init 34 = .ok (.iconst 1, 1) := by decide +kernel
theorem dX9_init_35 : decode cX9_init 35 = .ok (.putfield 25, 3) := by decide +kernel
theorem dX9_init_38 : decode cX9_init 38 = .ok (.aload_n 0, 1) := by decide +kernel
theorem dX9_init_39 : decode cX9_init 39 = .ok (.iconst 0, 1) := by decide +kernel
theorem dX9_init_40 : decode cX9_init 40 = .ok (.putfield 28, 3) := by decide +kernel
theorem dX9_init_43 : decode cX9_init 43 = .ok (.return_, 1) := by decide +kernel
theorem dX10_init_0 : decode cX10_init 0 = .ok (.aload_n 0, 1) := by decide +kernel
theorem dX10_init_1 : decode cX10_init 1 = .ok (.invokespecial 3, 3) := by decide +kernel
theorem dX10_init_4 : decode cX10_init 4 = .ok (.aload_n 0, 1) := by decide +kernel
theorem dX10_init_5 : decode cX10_init 5 = .ok (.iconst 0, 1) := by decide +kernel
theorem dX10_init_6 : decode cX10_init 6 = .ok (.putfield 9, 3) := by decide +kernel
theorem dX10_init_9 : decode cX10_init 9 = .ok (.aload_n 0, 1) := by decide +kernel
theorem dX10_init_10 : decode cX10_init 10 = .ok (.iconst 0, 1) := by decide +kernel
theorem dX10_init_11 : decode cX10_init 11 = .ok (.putfield 15, 3) := by decide +kernel
theorem dX10_init_14 : decode cX10_init 14 = .ok (.aload_n 0, 1) := by decide +kernel
theorem dX10_init_15 : decode cX10_init 15 = .ok (.iconst 0, 1) := by decide +kernel
theorem dX10_init_16 : decode cX10_init 16 = .ok (.putfield 18, 3) := by decide +kernel
theorem dX10_init_19 : decode cX10_init 19 = .ok (.aload_n 0, 1) := by decide +kernel
theorem dX10_init_20 : decode cX10_init 20 = .ok (.iconst (-1), 1) := by decide +kernel
theorem dX10_init_21 : decode cX10_init 21 = .ok (.putfield 21, 3) := by decide +kernel
theorem dX10_init_24 : decode cX10_init 24 = .ok (.aload_n 0, 1) := by decide +kernel
theorem dX10_init_25 : decode cX10_init 25 = .ok (.iconst 0, 1) := by decide +kernel
theorem dX10_init_26 : decode cX10_init 26 = .ok (.putfield 24, 3) := by decide +kernel
theorem dX10_init_29 : decode cX10_init 29 = .ok (.aload_n 0, 1) := by decide +kernel
theorem dX10_init_30 : decode cX10_init 30 = .ok (.iconst (-1), 1) := by decide +kernel
theorem dX10_init_31 : decode cX10_init 31 = .ok (.putfield 28, 3) := by decide +kernel
theorem dX10_init_34 : decode cX10_init 34 = .ok (.return_, 1) := by decide +kernel
theorem dX10_take_0 : decode cX10_take 0 = .ok (.iload_n 1, 1) := by decide +kernel
theorem dX10_take_1 : decode cX10_take 1 = .ok (.ifCond .ne 13, 3) := by decide +kernel
theorem dX10_take_4 : decode cX10_take 4 = .ok (.aload_n 0, 1) := by decide +kernel
theorem dX10_take_5 : decode cX10_take 5 = .ok (.dup, 1) := by decide +kernel
theorem dX10_take_6 : decode cX10_take 6 = .ok (.getfield 9, 3) := by decide +kernel
theorem dX10_take_9 : decode cX10_take 9 = .ok (.iload_n 2, 1) := by decide +kernel
theorem dX10_take_10 : decode cX10_take 10 = .ok (.ior, 1) := by decide +kernel
theorem dX10_take_11 : decode cX10_take 11 = .ok (.putfield 9, 3) := by decide +kernel
theorem dX10_take_14 : decode cX10_take 14 = .ok (.iload_n 1, 1) := by decide +kernel
theorem dX10_take_15 : decode cX10_take 15 = .ok (.iconst 1, 1) := by decide +kernel
theorem dX10_take_16 : decode cX10_take 16 = .ok (.if_icmp .ne 13, 3) := by decide +kernel
theorem dX10_take_19 : decode cX10_take 19 = .ok (.aload_n 0, 1) := by decide +kernel
theorem dX10_take_20 : decode cX10_take 20 = .ok (.dup, 1) := by decide +kernel
theorem dX10_take_21 : decode cX10_take 21 = .ok (.getfield 15, 3) := by decide +kernel
theorem dX10_take_24 : decode cX10_take 24 = .ok (.iload_n 2, 1) := by decide +kernel
theorem dX10_take_25 : decode cX10_take 25 = .ok (.iadd, 1) := by decide +kernel
theorem dX10_take_26 : decode cX10_take 26 = .ok (.putfield 15, 3) := by decide +kernel
theorem dX10_take_29 : decode cX10_take 29 = .ok (.iload_n 1, 1) := by decide +kernel
theorem dX10_take_30 : decode cX10_take 30 = .ok (.iconst 2, 1) := by decide +kernel
theorem dX10_take_31 : decode cX10_take 31 = .ok (.if_icmp .ne 24, 3) := by decide +kernel
theorem dX10_take_34 : decode cX10_take 34 = .ok (.aload_n 0, 1) := by decide +kernel
theorem dX10_take_35 : decode cX10_take 35 = .ok (.getfield 21, 3) := by decide +kernel
theorem dX10_take_38 : decode cX10_take 38 = .ok (.iconst (-1), 1) := by decide +kernel
theorem dX10_take_39 : decode cX10_take 39 = .ok (.if_icmp .eq 11, 3) := by decide +kernel
theorem dX10_take_42 : decode cX10_take 42 = .ok (.iload_n 2, 1) := by decide +kernel
theorem dX10_take_43 : decode cX10_take 43 = .ok (.aload_n 0, 1) := by decide +kernel
theorem dX10_take_44 : decode cX10_take 44 = .ok (.getfield 21, 3) := by decide +kernel
theorem dX10_take_47 : decode cX10_take 47 = .ok (.if_icmp .ge 8, 3) := by decide +kernel
theorem dX10_take_50 : decode cX10_take 50 = .ok (.aload_n 0, 1) := by decide +kernel
theorem dX10_take_51 : decode cX10_take 51 = .ok (.iload_n 2, 1) := by decide +kernel
theorem dX10_take_52 : decode cX10_take 52 = .ok (.putfield 21, 3) := by decide +kernel
theorem dX10_take_55 : decode cX10_take 55 = .ok (.iload_n 1, 1) := by decide +kernel
theorem dX10_take_56 : decode cX10_take 56 = .ok (.iconst 3, 1) := by decide +kernel
theorem dX10_take_57 : decode cX10_take 57 = .ok (.if_icmp .ne 15, 3) := by decide +kernel
theorem dX10_take_60 : decode cX10_take 60 = .ok (.aload_n 0, 1) := by decide +kernel
theorem dX10_take_61 : decode cX10_take 61 = .ok (.aload_n 0, 1) := by decide +kernel
theorem dX10_take_62 : decode cX10_take 62 = .ok (.getfield 28, 3) := by decide +kernel
theorem dX10_take_65 : decode cX10_take 65 = .ok (.iload_n 2, 1) := by decide +kernel
theorem dX10_take_66 : decode cX10_take 66 = .ok (.invokestatic 31, 3) := by decide +kernel
theorem dX10_take_69 : decode cX10_take 69 = .ok (.putfield 28, 3) := by decide +kernel
theorem dX10_take_72 : decode cX10_take 72 = .ok (.iload_n 1, 1) := by decide +kernel
theorem dX10_take_73 : decode cX10_take 73 = .ok (.iconst 4, 1) := by decide +kernel
theorem dX10_take_74 : decode cX10_take 74 = .ok (.if_icmp .ne 13, 3) := by decide +kernel
theorem dX10_take_77 : decode cX10_take 77 = .ok (.aload_n 0, 1) := by decide +kernel
theorem dX10_take_78 : decode cX10_take 78 = .ok (.dup, 1) := by decide +kernel
theorem dX10_take_79 : decode cX10_take 79 = .ok (.getfield 18, 3) := by decide +kernel
theorem dX10_take_82 : decode cX10_take 82 = .ok (.iload_n 2, 1) := by decide +kernel
theorem dX10_take_83 : decode cX10_take 83 = .ok (.iadd, 1) := by decide +kernel
theorem dX10_take_84 : decode cX10_take 84 = .ok (.putfield 18, 3) := by decide +kernel
theorem dX10_take_87 : decode cX10_take 87 = .ok (.iload_n 1, 1) := by decide +kernel
theorem dX10_take_88 : decode cX10_take 88 = .ok (.iconst 5, 1) := by decide +kernel
theorem dX10_take_89 : decode cX10_take 89 = .ok (.if_icmp .ne 8, 3) := by decide +kernel
theorem dX10_take_92 : decode cX10_take 92 = .ok (.aload_n 0, 1) := by decide +kernel
theorem dX10_take_93 : decode cX10_take 93 = .ok (.iconst 1, 1) := by decide +kernel
theorem dX10_take_94 : decode cX10_take 94 = .ok (.putfield 24, 3) := by decide +kernel
theorem dX10_take_97 : decode cX10_take 97 = .ok (.return_, 1) := by decide +kernel
theorem dX10_validYears_0 : decode cX10_validYears 0 = .ok (.aload_n 0, 1) := by decide +kernel
theorem dX10_validYears_1 : decode cX10_validYears 1 = .ok (.getfield 28, 3) := by decide +kernel
theorem dX10_validYears_4 : decode cX10_validYears 4 = .ok (.iconst (-1), 1) := by decide +kernel
theorem dX10_validYears_5 : decode cX10_validYears 5 = .ok (.if_icmp .ne 8, 3) := by decide +kernel
theorem dX10_validYears_8 : decode cX10_validYears 8 = .ok (.bipush 10, 2) := by decide +kernel
theorem dX10_validYears_10 : decode cX10_validYears 10 = .ok (.goto 7, 3) := by decide +kernel
theorem dX10_validYears_13 : decode cX10_validYears 13 = .ok (.aload_n 0, 1) := by decide +kernel
theorem dX10_validYears_14 : decode cX10_validYears 14 = .ok (.getfield 28, 3) := by decide +kernel
theorem dX10_validYears_17 : decode cX10_validYears 17 = .ok (.ireturn, 1) := by decide +kernel
