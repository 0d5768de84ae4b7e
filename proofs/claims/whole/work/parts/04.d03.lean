theorem dX11_init_0 : decode cX11_init 0 = .ok (.aload_n 0, 1) := by decide +kernel
theorem dX11_init_1 : decode cX11_init 1 = .ok (.invokespecial 1, 3) := by decide +kernel
theorem dX11_init_4 : decode cX11_init 4 = .ok (.aload_n 0, 1) := by decide +kernel
theorem dX11_init_5 : decode cX11_init 5 = .ok (.sipush 400, 3) := by decide +kernel
theorem dX11_init_8 : decode cX11_init 8 = .ok (.newarray .int, 2) := by decide +kernel
theorem dX11_init_10 : decode cX11_init 10 = .ok (.putfield 9, 3) := by decide +kernel
theorem dX11_init_13 : decode cX11_init 13 = .ok (.aload_n 0, 1) := by decide +kernel
theorem dX11_init_14 : decode cX11_init 14 = .ok (.iconst 0, 1) := by decide +kernel
theorem dX11_init_15 : decode cX11_init 15 = .ok (.putfield 13, 3) := by decide +kernel
theorem dX11_init_18 : decode cX11_init 18 = .ok (.aload_n 0, 1) := by decide +kernel
theorem dX11_init_19 : decode cX11_init 19 = .ok (.iconst (-1), 1) := by decide +kernel
theorem dX11_init_20 : decode cX11_init 20 = .ok (.putfield 17, 3) := by decide +kernel
theorem dX11_init_23 : decode cX11_init 23 = .ok (.aload_n 0, 1) := by decide +kernel
theorem dX11_init_24 : decode cX11_init 24 = .ok (.new 20, 3) := by decide +kernel
theorem dX11_init_27 : decode cX11_init 27 = .ok (.dup, 1) := by decide +kernel
theorem dX11_init_28 : decode cX11_init 28 = .ok (.invokespecial 22, 3) := by decide +kernel
theorem dX11_init_31 : decode cX11_init 31 = .ok (.putfield 23, 3) := by decide +kernel
theorem dX11_init_34 : decode cX11_init 34 = .ok (.aload_n 0, 1) := by decide +kernel
theorem dX11_init_35 : decode cX11_init 35 = .ok (.new 27, 3) := by decide +kernel
theorem dX11_init_38 : decode cX11_init 38 = .ok (.dup, 1) := by decide +kernel
theorem dX11_init_39 : decode cX11_init 39 = .ok (.iconst (-1), 1) := by decide +kernel
theorem dX11_init_40 : decode cX11_init 40 = .ok (.iconst 0, 1) := by decide +kernel
theorem dX11_init_41 : decode cX11_init 41 = .ok (.newarray .int, 2) := by decide +kernel
theorem dX11_init_43 : decode cX11_init 43 = .ok (.invokespecial 29, 3) := by decide +kernel
theorem dX11_init_46 : decode cX11_init 46 = .ok (.putfield 32, 3) := by decide +kernel
theorem dX11_init_49 : decode cX11_init 49 = .ok (.aload_n 0, 1) := by decide +kernel
theorem dX11_init_50 : decode cX11_init 50 = .ok (.new 36, 3) := by decide +kernel
theorem dX11_init_53 : decode cX11_init 53 = .ok (.dup, 1) := by decide +kernel
theorem dX11_init_54 : decode cX11_init 54 = .ok (.invokespecial 38, 3) := by decide +kernel
theorem dX11_init_57 : decode cX11_init 57 = .ok (.putfield 39, 3) := by decide +kernel
theorem dX11_init_60 : decode cX11_init 60 = .ok (.aload_n 0, 1) := by decide +kernel
theorem dX11_init_61 : decode cX11_init 61 = .ok (.new 43, 3) := by decide +kernel
theorem dX11_init_64 : decode cX11_init 64 = .ok (.dup, 1) := by decide +kernel
theorem dX11_init_65 : decode cX11_init 65 = .ok (.invokespecial 45, 3) := by decide +kernel
theorem dX11_init_68 : decode cX11_init 68 = .ok (.putfield 46, 3) := by decide +kernel
theorem dX11_init_71 : decode cX11_init 71 = .ok (.aload_n 0, 1) := by decide +kernel
theorem dX11_init_72 : decode cX11_init 72 = .ok (.new 50, 3) := by decide +kernel
theorem dX11_init_75 : decode cX11_init 75 = .ok (.dup, 1) := by decide +kernel
theorem dX11_init_76 : decode cX11_init 76 = .ok (.invokespecial 52, 3) := by decide +kernel
theorem dX11_init_79 : decode cX11_init 79 = .ok (.putfield 53, 3) := by decide +kernel
theorem dX11_init_82 : decode cX11_init 82 = .ok (.aload_n 0, 1) := by decide +kernel
theorem dX11_init_83 : decode cX11_init 83 = .ok (.new 57, 3) := by decide +kernel
theorem dX11_init_86 : decode cX11_init 86 = .ok (.dup, 1) := by decide +kernel
theorem dX11_init_87 : decode cX11_init 87 = .ok (.aload_n 0, 1) := by decide +kernel
theorem dX11_init_88 : decode cX11_init 88 = .ok (.getfield 39, 3) := by decide +kernel
theorem dX11_init_91 : decode cX11_init 91 = .ok (.aload_n 0, 1) := by decide +kernel
theorem dX11_init_92 : decode cX11_init 92 = .ok (.getfield 46, 3) := by decide +kernel
theorem dX11_init_95 : decode cX11_init 95 = .ok (.aload_n 0, 1) := by decide +kernel
theorem dX11_init_96 : decode cX11_init 96 = .ok (.getfield 53, 3) := by decide +kernel
theorem dX11_init_99 : decode cX11_init 99 = .ok (.invokespecial 59, 3) := by decide +kernel
theorem dX11_init_102 : decode cX11_init 102 = .ok (.putfield 62, 3) := by decide +kernel
theorem dX11_init_105 : decode cX11_init 105 = .ok (.aload_n 0, 1) := by decide +kernel
theorem dX11_init_106 : decode cX11_init 106 = .ok (.new 57, 3) := by decide +kernel
theorem dX11_init_109 : decode cX11_init 109 = .ok (.dup, 1) := by decide +kernel
theorem dX11_init_110 : decode cX11_init 110 = .ok (.aload_n 0, 1) := by decide +kernel
theorem dX11_init_111 : decode cX11_init 111 = .ok (.getfield 39, 3) := by decide +kernel
theorem dX11_init_114 : decode cX11_init 114 = .ok (.aload_n 0, 1) := by decide +kernel
theorem dX11_init_115 : decode cX11_init 115 = .ok (.getfield 46, 3) := by decide +kernel
theorem dX11_init_118 : decode cX11_init 118 = .ok (.aload_n 0, 1) := by decide +kernel
theorem dX11_init_119 : decode cX11_init 119 = .ok (.getfield 53, 3) := by decide +kernel
theorem dX11_init_122 : decode cX11_init 122 = .ok (.invokespecial 59, 3) := by decide +kernel
theorem dX11_init_125 : decode cX11_init 125 = .ok (.putfield 66, 3) := by decide +kernel
theorem dX11_init_128 : decode cX11_init 128 = .ok (.return_, 1) := by decide +kernel
theorem dX11_feed_0 : decode cX11_feed 0 = .ok (.aload_n 0, 1) := by decide +kernel
theorem dX11_feed_1 : decode cX11_feed 1 = .ok (.getfield 13, 3) := by decide +kernel
theorem dX11_feed_4 : decode cX11_feed 4 = .ok (.bipush 20, 2) := by decide +kernel
theorem dX11_feed_6 : decode cX11_feed 6 = .ok (.iadd, 1) := by decide +kernel
theorem dX11_feed_7 : decode cX11_feed 7 = .ok (.sipush 400, 3) := by decide +kernel
theorem dX11_feed_10 : decode cX11_feed 10 = .ok (.if_icmp .le 5, 3) := by decide +kernel
theorem dX11_feed_13 : decode cX11_feed 13 = .ok (.iconst (-1), 1) := by decide +kernel
theorem dX11_feed_14 : decode cX11_feed 14 = .ok (.ireturn, 1) := by decide +kernel
theorem dX11_feed_15 : decode cX11_feed 15 = .ok (.aload_n 0, 1) := by decide +kernel
theorem dX11_feed_16 : decode cX11_feed 16 = .ok (.iload_n 1, 1) := by decide +kernel
theorem dX11_feed_17 : decode cX11_feed 17 = .ok (.invokevirtual 69, 3) := by decide +kernel
theorem dX11_feed_20 : decode cX11_feed 20 = .ok (.aload_n 0, 1) := by decide +kernel
theorem dX11_feed_21 : decode cX11_feed 21 = .ok (.iload_n 2, 1) := by decide +kernel
theorem dX11_feed_22 : decode cX11_feed 22 = .ok (.invokevirtual 69, 3) := by decide +kernel
theorem dX11_feed_25 : decode cX11_feed 25 = .ok (.aload_n 0, 1) := by decide +kernel
theorem dX11_feed_26 : decode cX11_feed 26 = .ok (.iload_n 3, 1) := by decide +kernel
theorem dX11_feed_27 : decode cX11_feed 27 = .ok (.invokevirtual 69, 3) := by decide +kernel
theorem dX11_feed_30 : decode cX11_feed 30 = .ok (.aload_n 0, 1) := by decide +kernel
theorem dX11_feed_31 : decode cX11_feed 31 = .ok (.iload 4, 2) := by decide +kernel
theorem dX11_feed_33 : decode cX11_feed 33 = .ok (.invokevirtual 69, 3) := by decide +kernel
theorem dX11_feed_36 : decode cX11_feed 36 = .ok (.aload_n 0, 1) := by decide +kernel
theorem dX11_feed_37 : decode cX11_feed 37 = .ok (.iload 5, 2) := by decide +kernel
theorem dX11_feed_39 : decode cX11_feed 39 = .ok (.invokevirtual 69, 3) := by decide +kernel
theorem dX11_feed_42 : decode cX11_feed 42 = .ok (.aload_n 0, 1) := by decide +kernel
theorem dX11_feed_43 : decode cX11_feed 43 = .ok (.getfield 13, 3) := by decide +kernel
theorem dX11_feed_46 : decode cX11_feed 46 = .ok (.ireturn, 1) := by decide +kernel
theorem dX11_putBytes_0 : decode cX11_putBytes 0 = .ok (.bipush 24, 2) := by decide +kernel
theorem dX11_putBytes_2 : decode cX11_putBytes 2 = .ok (.istore_n 2, 1) := by decide +kernel
theorem dX11_putBytes_3 : decode cX11_putBytes 3 = .ok (.iload_n 2, 1) := by decide +kernel
theorem dX11_putBytes_4 : decode cX11_putBytes 4 = .ok (.ifCond .lt 45, 3) := by decide +kernel
theorem dX11_putBytes_7 : decode cX11_putBytes 7 = .ok (.aload_n 0, 1) := by decide +kernel
theorem dX11_putBytes_8 : decode cX11_putBytes 8 = .ok (.getfield 13, 3) := by decide +kernel
theorem dX11_putBytes_11 : decode cX11_putBytes 11 = .ok (.sipush 400, 3) := by decide +kernel
theorem dX11_putBytes_14 : decode cX11_putBytes 14 = .ok (.if_icmp .ge 35, 3) := by decide +kernel
theorem dX11_putBytes_17 : decode cX11_putBytes 17 = .ok (.aload_n 0, 1) := by decide +kernel
theorem dX11_putBytes_18 : decode cX11_putBytes 18 = .ok (.getfield 9, 3) := by decide +kernel
theorem dX11_putBytes_21 : decode cX11_putBytes 21 = .ok (.aload_n 0, 1) := by decide +kernel
theorem dX11_putBytes_22 : decode cX11_putBytes 22 = .ok (.getfield 13, 3) := by decide +kernel
theorem dX11_putBytes_25 : decode cX11_putBytes 25 = .ok (.iload_n 1, 1) := by decide +kernel
theorem dX11_putBytes_26 : decode cX11_putBytes 26 = .ok (.iload_n 2, 1) := by decide +kernel
theorem dX11_putBytes_27 : decode cX11_putBytes 27 = .ok (.iushr, 1) := by decide +kernel
theorem dX11_putBytes_28 : decode cX11_putBytes 28 = .ok (.sipush 255, 3) := by decide +kernel
theorem dX11_putBytes_31 : decode cX11_putBytes 31 = .ok (.iand, 1) := by decide +kernel
theorem dX11_putBytes_32 : decode cX11_putBytes 32 = .ok (.iastore, 1) := by decide +kernel
theorem dX11_putBytes_33 : decode cX11_putBytes 33 = .ok (.aload_n 0, 1) := by decide +kernel
theorem dX11_putBytes_34 : decode cX11_putBytes 34 = .ok (.dup, 1) := by decide +kernel
theorem dX11_putBytes_35 : decode cX11_putBytes 35 = .ok (.getfield 13, 3) := by decide +kernel
theorem dX11_putBytes_38 : decode cX11_putBytes 38 = .ok (.iconst 1, 1) := by decide +kernel
theorem dX11_putBytes_39 : decode cX11_putBytes 39 = .ok (.iadd, 1) := by decide +kernel
theorem dX11_putBytes_40 : decode cX11_putBytes 40 = .ok (.putfield 13, 3) := by decide +kernel
theorem dX11_putBytes_43 : decode cX11_putBytes 43 = .ok (.iinc 2 (-8), 3) := by decide +kernel
theorem dX11_putBytes_46 : decode cX11_putBytes 46 = .ok (.goto (-43), 3) := by decide +kernel
theorem dX11_putBytes_49 : decode cX11_putBytes 49 = .ok (.return_, 1) := by decide +kernel
theorem dX11_end_0 : decode cX11_end 0 = .ok (.iload_n 1, 1) := by decide +kernel
theorem dX11_end_1 : decode cX11_end 1 = .ok (.ifCond .lt 11, 3) := by decide +kernel
theorem dX11_end_4 : decode cX11_end 4 = .ok (.iload_n 1, 1) := by decide +kernel
theorem dX11_end_5 : decode cX11_end 5 = .ok (.aload_n 0, 1) := by decide +kernel
theorem dX11_end_6 : decode cX11_end 6 = .ok (.getfield 13, 3) := by decide +kernel
theorem dX11_end_9 : decode cX11_end 9 = .ok (.if_icmp .le 5, 3) := by decide +kernel
theorem dX11_end_12 : decode cX11_end 12 = .ok (.iconst 0, 1) := by decide +kernel
theorem dX11_end_13 : decode cX11_end 13 = .ok (.ireturn, 1) := by decide +kernel
theorem dX11_end_14 : decode cX11_end 14 = .ok (.aload_n 0, 1) := by decide +kernel
theorem dX11_end_15 : decode cX11_end 15 = .ok (.iload_n 1, 1) := by decide +kernel
theorem dX11_end_16 : decode cX11_end 16 = .ok (.putfield 13, 3) := by decide +kernel
theorem dX11_end_19 : decode cX11_end 19 = .ok (.iconst 1, 1) := by decide +kernel
theorem dX11_end_20 : decode cX11_end 20 = .ok (.ireturn, 1) := by decide +kernel
theorem dX11_useTapeUp_0 : decode cX11_useTapeUp 0 = .ok (.aload_n 0, 1) := by decide +kernel
theorem dX11_useTapeUp_1 : decode cX11_useTapeUp 1 = .ok (.getfield 9, 3) := by decide +kernel
theorem dX11_useTapeUp_4 : decode cX11_useTapeUp 4 = .ok (.aload_n 0, 1) := by decide +kernel
theorem dX11_useTapeUp_5 : decode cX11_useTapeUp 5 = .ok (.getfield 13, 3) := by decide +kernel
theorem dX11_useTapeUp_8 : decode cX11_useTapeUp 8 = .ok (.invokestatic 73, 3) := by decide +kernel
theorem dX11_useTapeUp_11 : decode cX11_useTapeUp 11 = .ok (.astore_n 1, 1) := by decide +kernel
theorem dX11_useTapeUp_12 : decode cX11_useTapeUp 12 = .ok (.aload_n 0, 1) := by decide +kernel
theorem dX11_useTapeUp_13 : decode cX11_useTapeUp 13 = .ok (.iconst 0, 1) := by decide +kernel
theorem dX11_useTapeUp_14 : decode cX11_useTapeUp 14 = .ok (.putfield 13, 3) := by decide +kernel
theorem dX11_useTapeUp_17 : decode cX11_useTapeUp 17 = .ok (.aload_n 1, 1) := by decide +kernel
theorem dX11_useTapeUp_18 : decode cX11_useTapeUp 18 = .ok (.areturn, 1) := by decide +kernel
theorem dX11_law_0 : decode cX11_law 0 = .ok (.aload_n 0, 1) := by decide +kernel
theorem dX11_law_1 : decode cX11_law 1 = .ok (.invokevirtual 79, 3) := by decide +kernel
theorem dX11_law_4 : decode cX11_law 4 = .ok (.astore_n 2, 1) := by decide +kernel
theorem dX11_law_5 : decode cX11_law 5 = .ok (.iload_n 1, 1) := by decide +kernel
theorem dX11_law_6 : decode cX11_law 6 = .ok (.aload_n 0, 1) := by decide +kernel
theorem dX11_law_7 : decode cX11_law 7 = .ok (.getfield 62, 3) := by decide +kernel
theorem dX11_law_10 : decode cX11_law 10 = .ok (.getfield 83, 3) := by decide +kernel
theorem dX11_law_13 : decode cX11_law 13 = .ok (.if_icmp .lt 14, 3) := by decide +kernel
theorem dX11_law_16 : decode cX11_law 16 = .ok (.iload_n 1, 1) := by decide +kernel
theorem dX11_law_17 : decode cX11_law 17 = .ok (.sipush 1000, 3) := by decide +kernel
theorem dX11_law_20 : decode cX11_law 20 = .ok (.if_icmp .gt 7, 3) := by decide +kernel
theorem dX11_law_23 : decode cX11_law 23 = .ok (.iconst 1, 1) := by decide +kernel
theorem dX11_law_24 : decode cX11_law 24 = .ok (.goto 4, 3) := by decide +kernel
theorem dX11_law_27 : decode cX11_law 27 = .ok (.iconst 0, 1) := by decide +kernel
theorem dX11_law_28 : decode cX11_law 28 = .ok (.invokestatic 86, 3) := by decide +kernel
theorem dX11_law_31 : decode cX11_law 31 = .ok (.new 27, 3) := by decide +kernel
theorem dX11_law_34 : decode cX11_law 34 = .ok (.dup, 1) := by decide +kernel
theorem dX11_law_35 : decode cX11_law 35 = .ok (.iload_n 1, 1) := by decide +kernel
theorem dX11_law_36 : decode cX11_law 36 = .ok (.aload_n 2, 1) := by decide +kernel
theorem dX11_law_37 : decode cX11_law 37 = .ok (.invokespecial 29, 3) := by decide +kernel
theorem dX11_law_40 : decode cX11_law 40 = .ok (.astore_n 3, 1) := by decide +kernel
theorem dX11_law_41 : decode cX11_law 41 = .ok (.aload_n 3, 1) := by decide +kernel
theorem dX11_law_42 : decode cX11_law 42 = .ok (.bipush 9, 2) := by decide +kernel
theorem dX11_law_44 : decode cX11_law 44 = .ok (.newarray .int, 2) := by decide +kernel
theorem dX11_law_46 : decode cX11_law 46 = .ok (.invokevirtual 90, 3) := by decide +kernel
theorem dX11_law_49 : decode cX11_law 49 = .ok (.pop, 1) := by decide +kernel
theorem dX11_law_50 : decode cX11_law 50 = .ok (.aload_n 0, 1) := by decide +kernel
theorem dX11_law_51 : decode cX11_law 51 = .ok (.aload_n 3, 1) := by decide +kernel
theorem dX11_law_52 : decode cX11_law 52 = .ok (.getfield 94, 3) := by decide +kernel
theorem dX11_law_55 : decode cX11_law 55 = .ok (.putfield 17, 3) := by decide +kernel
theorem dX11_law_58 : decode cX11_law 58 = .ok (.aload_n 0, 1) := by decide +kernel
theorem dX11_law_59 : decode cX11_law 59 = .ok (.getfield 17, 3) := by decide +kernel
theorem dX11_law_62 : decode cX11_law 62 = .ok (.iconst (-1), 1) := by decide +kernel
theorem dX11_law_63 : decode cX11_law 63 = .ok (.if_icmp .ne 7, 3) := by decide +kernel
theorem dX11_law_66 : decode cX11_law 66 = .ok (.iconst 1, 1) := by decide +kernel
theorem dX11_law_67 : decode cX11_law 67 = .ok (.goto 4, 3) := by decide +kernel
theorem dX11_law_70 : decode cX11_law 70 = .ok (.iconst 0, 1) := by decide +kernel
theorem dX11_law_71 : decode cX11_law 71 = .ok (.invokestatic 86, 3) := by decide +kernel
theorem dX11_law_74 : decode cX11_law 74 = .ok (.aload_n 0, 1) := by decide +kernel
theorem dX11_law_75 : decode cX11_law 75 = .ok (.getfield 23, 3) := by decide +kernel
theorem dX11_law_78 : decode cX11_law 78 = .ok (.invokevirtual 97, 3) := by decide +kernel
theorem dX11_law_81 : decode cX11_law 81 = .ok (.bipush 12, 2) := by decide +kernel
theorem dX11_law_83 : decode cX11_law 83 = .ok (.if_icmp .lt 11, 3) := by decide +kernel
theorem dX11_law_86 : decode cX11_law 86 = .ok (.new 101, 3) := by decide +kernel
theorem dX11_law_89 : decode cX11_law 89 = .ok (.dup, 1) := by decide +kernel
theorem dX11_law_90 : decode cX11_law 90 = .ok (.invokespecial 103, 3) := by decide +kernel
theorem dX11_law_93 : decode cX11_law 93 = .ok (.athrow, 1) := by decide +kernel
theorem dX11_law_94 : decode cX11_law 94 = .ok (.aload_n 0, 1) := by decide +kernel
theorem dX11_law_95 : decode cX11_law 95 = .ok (.getfield 23, 3) := by decide +kernel
theorem dX11_law_98 : decode cX11_law 98 = .ok (.aload_n 3, 1) := by decide +kernel
theorem dX11_law_99 : decode cX11_law 99 = .ok (.invokevirtual 104, 3) := by decide +kernel
theorem dX11_law_102 : decode cX11_law 102 = .ok (.pop, 1) := by decide +kernel
theorem dX11_law_103 : decode cX11_law 103 = .ok (.aload_n 3, 1) := by decide +kernel
theorem dX11_law_104 : decode cX11_law 104 = .ok (.getfield 108, 3) := by decide +kernel
theorem dX11_law_107 : decode cX11_law 107 = .ok (.ireturn, 1) := by decide +kernel
theorem dX11_fault_0 : decode cX11_fault 0 = .ok (.aload_n 0, 1) := by decide +kernel
theorem dX11_fault_1 : decode cX11_fault 1 = .ok (.getfield 17, 3) := by decide +kernel
theorem dX11_fault_4 : decode cX11_fault 4 = .ok (.ireturn, 1) := by decide +kernel
theorem dX11_lawOfToday_0 : decode cX11_lawOfToday 0 = .ok (.aload_n 0, 1) := by decide +kernel
theorem dX11_lawOfToday_1 : decode cX11_lawOfToday 1 = .ok (.getfield 32, 3) := by decide +kernel
theorem dX11_lawOfToday_4 : decode cX11_lawOfToday 4 = .ok (.astore_n 1, 1) := by decide +kernel
theorem dX11_lawOfToday_5 : decode cX11_lawOfToday 5 = .ok (.iconst 0, 1) := by decide +kernel
theorem dX11_lawOfToday_6 : decode cX11_lawOfToday 6 = .ok (.istore_n 2, 1) := by decide +kernel
theorem dX11_lawOfToday_7 : decode cX11_lawOfToday 7 = .ok (.iload_n 2, 1) := by decide +kernel
theorem dX11_lawOfToday_8 : decode cX11_lawOfToday 8 = .ok (.aload_n 0, 1) := by decide +kernel
theorem dX11_lawOfToday_9 : decode cX11_lawOfToday 9 = .ok (.getfield 23, 3) := by decide +kernel
theorem dX11_lawOfToday_12 : decode cX11_lawOfToday 12 = .ok (.invokevirtual 97, 3) := by decide +kernel
theorem dX11_lawOfToday_15 : decode cX11_lawOfToday 15 = .ok (.if_icmp .ge 48, 3) := by decide +kernel
theorem dX11_lawOfToday_18 : decode cX11_lawOfToday 18 = .ok (.aload_n 0, 1) := by decide +kernel
theorem dX11_lawOfToday_19 : decode cX11_lawOfToday 19 = .ok (.getfield 23, 3) := by decide +kernel
theorem dX11_lawOfToday_22 : decode cX11_lawOfToday 22 = .ok (.iload_n 2, 1) := by decide +kernel
theorem dX11_lawOfToday_23 : decode cX11_lawOfToday 23 = .ok (.invokevirtual 111, 3) := by decide +kernel
theorem dX11_lawOfToday_26 : decode cX11_lawOfToday 26 = .ok (.checkcast 27, 3) := by decide +kernel
theorem dX11_lawOfToday_29 : decode cX11_lawOfToday 29 = .ok (.astore_n 3, 1) := by decide +kernel
theorem dX11_lawOfToday_30 : decode cX11_lawOfToday 30 = .ok (.aload_n 3, 1) := by decide +kernel
theorem dX11_lawOfToday_31 : decode cX11_lawOfToday 31 = .ok (.getfield 115, 3) := by decide +kernel
theorem dX11_lawOfToday_34 : decode cX11_lawOfToday 34 = .ok (.aload_n 0, 1) := by decide +kernel
theorem dX11_lawOfToday_35 : decode cX11_lawOfToday 35 = .ok (.getfield 62, 3) := by decide +kernel
theorem dX11_lawOfToday_38 : decode cX11_lawOfToday 38 = .ok (.getfield 83, 3) := by decide +kernel
theorem dX11_lawOfToday_41 : decode cX11_lawOfToday 41 = .ok (.if_icmp .gt 16, 3) := by decide +kernel
theorem dX11_lawOfToday_44 : decode cX11_lawOfToday 44 = .ok (.aload_n 3, 1) := by decide +kernel
theorem dX11_lawOfToday_45 : decode cX11_lawOfToday 45 = .ok (.getfield 115, 3) := by decide +kernel
theorem dX11_lawOfToday_48 : decode cX11_lawOfToday 48 = .ok (.aload_n 1, 1) := by decide +kernel
theorem dX11_lawOfToday_49 : decode cX11_lawOfToday 49 = .ok (.getfield 115, 3) := by decide +kernel
theorem dX11_lawOfToday_52 : decode cX11_lawOfToday 52 = .ok (.if_icmp .lt 5, 3) := by decide +kernel
theorem dX11_lawOfToday_55 : decode cX11_lawOfToday 55 = .ok (.aload_n 3, 1) := by decide +kernel
theorem dX11_lawOfToday_56 : decode cX11_lawOfToday 56 = .ok (.astore_n 1, 1) := by decide +kernel
theorem dX11_lawOfToday_57 : decode cX11_lawOfToday 57 = .ok (.iinc 2 1, 3) := by decide +kernel
theorem dX11_lawOfToday_60 : decode cX11_lawOfToday 60 = .ok (.goto (-53), 3) := by decide +kernel
theorem dX11_lawOfToday_63 : decode cX11_lawOfToday 63 = .ok (.aload_n 1, 1) := by decide +kernel
theorem dX11_lawOfToday_64 : decode cX11_lawOfToday 64 = .ok (.areturn, 1) := by decide +kernel
theorem dX11_person_0 : decode cX11_person 0 = .ok (.iload_n 1, 1) := by decide +kernel
theorem dX11_person_1 : decode cX11_person 1 = .ok (.ldc 118, 2) := by decide +kernel
theorem dX11_person_3 : decode cX11_person 3 = .ok (.if_icmp .lt 18, 3) := by decide +kernel
theorem dX11_person_6 : decode cX11_person 6 = .ok (.iload_n 1, 1) := by decide +kernel
theorem dX11_person_7 : decode cX11_person 7 = .ok (.aload_n 0, 1) := by decide +kernel
theorem dX11_person_8 : decode cX11_person 8 = .ok (.getfield 62, 3) := by decide +kernel
theorem dX11_person_11 : decode cX11_person 11 = .ok (.getfield 83, 3) := by decide +kernel
theorem dX11_person_14 : decode cX11_person 14 = .ok (.if_icmp .gt 7, 3) := by decide +kernel
theorem dX11_person_17 : decode cX11_person 17 = .ok (.iconst 1, 1) := by decide +kernel
theorem dX11_person_18 : decode cX11_person 18 = .ok (.goto 4, 3) := by decide +kernel
theorem dX11_person_21 : decode cX11_person 21 = .ok (.iconst 0, 1) := by decide +kernel
theorem dX11_person_22 : decode cX11_person 22 = .ok (.invokestatic 86, 3) := by decide +kernel
theorem dX11_person_25 : decode cX11_person 25 = .ok (.iload_n 3, 1) := by decide +kernel
theorem dX11_person_26 : decode cX11_person 26 = .ok (.invokestatic 119, 3) := by decide +kernel
theorem dX11_person_29 : decode cX11_person 29 = .ok (.ifCond .eq 39, 3) := by decide +kernel
theorem dX11_person_32 : decode cX11_person 32 = .ok (.iload 4, 2) := by decide +kernel
theorem dX11_person_34 : decode cX11_person 34 = .ok (.invokestatic 119, 3) := by decide +kernel
theorem dX11_person_37 : decode cX11_person 37 = .ok (.ifCond .eq 31, 3) := by decide +kernel
theorem dX11_person_40 : decode cX11_person 40 = .ok (.iload 5, 2) := by decide +kernel
theorem dX11_person_42 : decode cX11_person 42 = .ok (.invokestatic 119, 3) := by decide +kernel
theorem dX11_person_45 : decode cX11_person 45 = .ok (.ifCond .eq 23, 3) := by decide +kernel
theorem dX11_person_48 : decode cX11_person 48 = .ok (.iload 6, 2) := by decide +kernel
theorem dX11_person_50 : decode cX11_person 50 = .ok (.invokestatic 119, 3) := by decide +kernel
theorem dX11_person_53 : decode cX11_person 53 = .ok (.ifCond .eq 15, 3) := by decide +kernel
theorem dX11_person_56 : decode cX11_person 56 = .ok (.iload 7, 2) := by decide +kernel
theorem dX11_person_58 : decode cX11_person 58 = .ok (.invokestatic 119, 3) := by decide +kernel
theorem dX11_person_61 : decode cX11_person 61 = .ok (.ifCond .eq 7, 3) := by decide +kernel
theorem dX11_person_64 : decode cX11_person 64 = .ok (.iconst 1, 1) := by decide +kernel
theorem dX11_person_65 : decode cX11_person 65 = .ok (.goto 4, 3) := by decide +kernel
theorem dX11_person_68 : decode cX11_person 68 = .ok (.iconst 0, 1) := by decide +kernel
theorem dX11_person_69 : decode cX11_person 69 = .ok (.invokestatic 86, 3) := by decide +kernel
theorem dX11_person_72 : decode cX11_person 72 = .ok (.aload_n 0, 1) := by decide +kernel
theorem dX11_person_73 : decode cX11_person 73 = .ok (.getfield 39, 3) := by decide +kernel
theorem dX11_person_76 : decode cX11_person 76 = .ok (.getfield 123, 3) := by decide +kernel
theorem dX11_person_79 : decode cX11_person 79 = .ok (.invokevirtual 97, 3) := by decide +kernel
theorem dX11_person_82 : decode cX11_person 82 = .ok (.bipush 80, 2) := by decide +kernel
theorem dX11_person_84 : decode cX11_person 84 = .ok (.if_icmp .lt 11, 3) := by decide +kernel
theorem dX11_person_87 : decode cX11_person 87 = .ok (.new 101, 3) := by decide +kernel
theorem dX11_person_90 : decode cX11_person 90 = .ok (.dup, 1) := by decide +kernel
theorem dX11_person_91 : decode cX11_person 91 = .ok (.invokespecial 103, 3) := by decide +kernel
theorem dX11_person_94 : decode cX11_person 94 = .ok (.athrow, 1) := by decide +kernel
theorem dX11_person_95 : decode cX11_person 95 = .ok (.iconst 5, 1) := by decide +kernel
theorem dX11_person_96 : decode cX11_person 96 = .ok (.newarray .int, 2) := by decide +kernel
theorem dX11_person_98 : decode cX11_person 98 = .ok (.dup, 1) := by decide +kernel
theorem dX11_person_99 : decode cX11_person 99 = .ok (.iconst 0, 1) := by decide +kernel
theorem dX11_person_100 : decode cX11_person 100 = .ok (.iload_n 3, 1) := by decide +kernel
theorem dX11_person_101 : decode cX11_person 101 = .ok (.iastore, 1) := by decide +kernel
theorem dX11_person_102 : decode cX11_person 102 = .ok (.dup, 1) := by decide +kernel
theorem dX11_person_103 : decode cX11_person 103 = .ok (.iconst 1, 1) := by decide +kernel
theorem dX11_person_104 : decode cX11_person 104 = .ok (.iload 4, 2) := by decide +kernel
theorem dX11_person_106 : decode cX11_person 106 = .ok (.iastore, 1) := by decide +kernel
theorem dX11_person_107 : decode cX11_person 107 = .ok (.dup, 1) := by decide +kernel
theorem dX11_person_108 : decode cX11_person 108 = .ok (.iconst 2, 1) := by decide +kernel
theorem dX11_person_109 : decode cX11_person 109 = .ok (.iload 5, 2) := by decide +kernel
theorem dX11_person_111 : decode cX11_person 111 = .ok (.iastore, 1) := by decide +kernel
theorem dX11_person_112 : decode cX11_person 112 = .ok (.dup, 1) := by decide +kernel
theorem dX11_person_113 : decode cX11_person 113 = .ok (.iconst 3, 1) := by decide +kernel
theorem dX11_person_114 : decode cX11_person 114 = .ok (.iload 6, 2) := by decide +kernel
theorem dX11_person_116 : decode cX11_person 116 = .ok (.iastore, 1) := by decide +kernel
theorem dX11_person_117 : decode cX11_person 117 = .ok (.dup, 1) := by decide +kernel
theorem dX11_person_118 : decode cX11_person 118 = .ok (.iconst 4, 1) := by decide +kernel
theorem dX11_person_119 : decode cX11_person 119 = .ok (.iload 7, 2) := by decide +kernel
theorem dX11_person_121 : decode cX11_person 121 = .ok (.iastore, 1) := by decide +kernel
theorem dX11_person_122 : decode cX11_person 122 = .ok (.astore 8, 2) := by decide +kernel
theorem dX11_person_124 : decode cX11_person 124 = .ok (.new 126, 3) := by decide +kernel
theorem dX11_person_127 : decode cX11_person 127 = .ok (.dup, 1) := by decide +kernel
theorem dX11_person_128 : decode cX11_person 128 = .ok (.aload_n 0, 1) := by decide +kernel
theorem dX11_person_129 : decode cX11_person 129 = .ok (.getfield 39, 3) := by decide +kernel
theorem dX11_person_132 : decode cX11_person 132 = .ok (.getfield 123, 3) := by decide +kernel
theorem dX11_person_135 : decode cX11_person 135 = .ok (.invokevirtual 97, 3) := by decide +kernel
theorem dX11_person_138 : decode cX11_person 138 = .ok (.iload_n 1, 1) := by decide +kernel
theorem dX11_person_139 : decode cX11_person 139 = .ok (.iload_n 2, 1) := by decide +kernel
theorem dX11_person_140 : decode cX11_person 140 = .ok (.aload 8, 2) := by decide +kernel
theorem dX11_person_142 : decode cX11_person 142 = .ok (.invokespecial 128, 3) := by decide +kernel
theorem dX11_person_145 : decode cX11_person 145 = .ok (.astore 9, 2) := by decide +kernel
theorem dX11_person_147 : decode cX11_person 147 = .ok (.aload_n 0, 1) := by decide +kernel
theorem dX11_person_148 : decode cX11_person 148 = .ok (.getfield 39, 3) := by decide +kernel
theorem dX11_person_151 : decode cX11_person 151 = .ok (.getfield 123, 3) := by decide +kernel
theorem dX11_person_154 : decode cX11_person 154 = .ok (.aload 9, 2) := by decide +kernel
theorem dX11_person_156 : decode cX11_person 156 = .ok (.invokevirtual 104, 3) := by decide +kernel
theorem dX11_person_159 : decode cX11_person 159 = .ok (.pop, 1) := by decide +kernel
theorem dX11_person_160 : decode cX11_person 160 = .ok (.aload 9, 2) := by decide +kernel
theorem dX11_person_162 : decode cX11_person 162 = .ok (.getfield 131, 3) := by decide +kernel
theorem dX11_person_165 : decode cX11_person 165 = .ok (.ireturn, 1) := by decide +kernel
theorem dX11_isFace_0 : decode cX11_isFace 0 = .ok (.iload_n 0, 1) := by decide +kernel
theorem dX11_isFace_1 : decode cX11_isFace 1 = .ok (.ifCond .lt 13, 3) := by decide +kernel
theorem dX11_isFace_4 : decode cX11_isFace 4 = .ok (.iload_n 0, 1) := by decide +kernel
theorem dX11_isFace_5 : decode cX11_isFace 5 = .ok (.bipush 99, 2) := by decide +kernel
theorem dX11_isFace_7 : decode cX11_isFace 7 = .ok (.if_icmp .gt 7, 3) := by decide +kernel
theorem dX11_isFace_10 : decode cX11_isFace 10 = .ok (.iconst 1, 1) := by decide +kernel
theorem dX11_isFace_11 : decode cX11_isFace 11 = .ok (.goto 4, 3) := by decide +kernel
theorem dX11_isFace_14 : decode cX11_isFace 14 = .ok (.iconst 0, 1) := by decide +kernel
theorem dX11_isFace_15 : decode cX11_isFace 15 = .ok (.ireturn, 1) := by decide +kernel
theorem dX11_name_0 : decode cX11_name 0 = .ok (.aload_n 0, 1) := by decide +kernel
theorem dX11_name_1 : decode cX11_name 1 = .ok (.invokevirtual 79, 3) := by decide +kernel
theorem dX11_name_4 : decode cX11_name 4 = .ok (.astore_n 2, 1) := by decide +kernel
theorem dX11_name_5 : decode cX11_name 5 = .ok (.aload_n 0, 1) := by decide +kernel
theorem dX11_name_6 : decode cX11_name 6 = .ok (.iload_n 1, 1) := by decide +kernel
theorem dX11_name_7 : decode cX11_name 7 = .ok (.invokevirtual 134, 3) := by decide +kernel
theorem dX11_name_10 : decode cX11_name 10 = .ok (.astore_n 3, 1) := by decide +kernel
theorem dX11_name_11 : decode cX11_name 11 = .ok (.aload_n 0, 1) := by decide +kernel
theorem dX11_name_12 : decode cX11_name 12 = .ok (.aload_n 2, 1) := by decide +kernel
theorem dX11_name_13 : decode cX11_name 13 = .ok (.invokestatic 138, 3) := by decide +kernel
theorem dX11_name_16 : decode cX11_name 16 = .ok (.putfield 17, 3) := by decide +kernel
theorem dX11_name_19 : decode cX11_name 19 = .ok (.aload_n 0, 1) := by decide +kernel
theorem dX11_name_20 : decode cX11_name 20 = .ok (.getfield 17, 3) := by decide +kernel
theorem dX11_name_23 : decode cX11_name 23 = .ok (.iconst (-1), 1) := by decide +kernel
theorem dX11_name_24 : decode cX11_name 24 = .ok (.if_icmp .ne 7, 3) := by decide +kernel
theorem dX11_name_27 : decode cX11_name 27 = .ok (.iconst 1, 1) := by decide +kernel
theorem dX11_name_28 : decode cX11_name 28 = .ok (.goto 4, 3) := by decide +kernel
theorem dX11_name_31 : decode cX11_name 31 = .ok (.iconst 0, 1) := by decide +kernel
theorem dX11_name_32 : decode cX11_name 32 = .ok (.invokestatic 86, 3) := by decide +kernel
theorem dX11_name_35 : decode cX11_name 35 = .ok (.aload_n 3, 1) := by decide +kernel
theorem dX11_name_36 : decode cX11_name 36 = .ok (.new 139, 3) := by decide +kernel
theorem dX11_name_39 : decode cX11_name 39 = .ok (.dup, 1) := by decide +kernel
theorem dX11_name_40 : decode cX11_name 40 = .ok (.aload_n 2, 1) := by decide +kernel
theorem dX11_name_41 : decode cX11_name 41 = .ok (.invokespecial 143, 3) := by decide +kernel
theorem dX11_name_44 : decode cX11_name 44 = .ok (.putfield 146, 3) := by decide +kernel
theorem dX11_name_47 : decode cX11_name 47 = .ok (.aload_n 3, 1) := by decide +kernel
theorem dX11_name_48 : decode cX11_name 48 = .ok (.getfield 146, 3) := by decide +kernel
theorem dX11_name_51 : decode cX11_name 51 = .ok (.getfield 150, 3) := by decide +kernel
theorem dX11_name_54 : decode cX11_name 54 = .ok (.ireturn, 1) := by decide +kernel
theorem dX11_sign_0 : decode cX11_sign 0 = .ok (.aload_n 0, 1) := by decide +kernel
theorem dX11_sign_1 : decode cX11_sign 1 = .ok (.iload_n 1, 1) := by decide +kernel
theorem dX11_sign_2 : decode cX11_sign 2 = .ok (.invokevirtual 134, 3) := by decide +kernel
theorem dX11_sign_5 : decode cX11_sign 5 = .ok (.getfield 146, 3) := by decide +kernel
theorem dX11_sign_8 : decode cX11_sign 8 = .ok (.astore_n 3, 1) := by decide +kernel
theorem dX11_sign_9 : decode cX11_sign 9 = .ok (.aload_n 3, 1) := by decide +kernel
theorem dX11_sign_10 : decode cX11_sign 10 = .ok (.ifnull 13, 3) := by decide +kernel
theorem dX11_sign_13 : decode cX11_sign 13 = .ok (.iload_n 2, 1) := by decide +kernel
theorem dX11_sign_14 : decode cX11_sign 14 = .ok (.ifCond .lt 9, 3) := by decide +kernel
theorem dX11_sign_17 : decode cX11_sign 17 = .ok (.iload_n 2, 1) := by decide +kernel
theorem dX11_sign_18 : decode cX11_sign 18 = .ok (.bipush 24, 2) := by decide +kernel
theorem dX11_sign_20 : decode cX11_sign 20 = .ok (.if_icmp .lt 5, 3) := by decide +kernel
theorem dX11_sign_23 : decode cX11_sign 23 = .ok (.iconst (-1), 1) := by decide +kernel
theorem dX11_sign_24 : decode cX11_sign 24 = .ok (.ireturn, 1) := by decide +kernel
theorem dX11_sign_25 : decode cX11_sign 25 = .ok (.aload_n 3, 1) := by decide +kernel
theorem dX11_sign_26 : decode cX11_sign 26 = .ok (.getfield 153, 3) := by decide +kernel
theorem dX11_sign_29 : decode cX11_sign 29 = .ok (.iload_n 2, 1) := by decide +kernel
theorem dX11_sign_30 : decode cX11_sign 30 = .ok (.iaload, 1) := by decide +kernel
theorem dX11_sign_31 : decode cX11_sign 31 = .ok (.ireturn, 1) := by decide +kernel
theorem dX11_figure_0 : decode cX11_figure 0 = .ok (.aload_n 0, 1) := by decide +kernel
theorem dX11_figure_1 : decode cX11_figure 1 = .ok (.iload_n 1, 1) := by decide +kernel
theorem dX11_figure_2 : decode cX11_figure 2 = .ok (.invokevirtual 134, 3) := by decide +kernel
theorem dX11_figure_5 : decode cX11_figure 5 = .ok (.getfield 146, 3) := by decide +kernel
theorem dX11_figure_8 : decode cX11_figure 8 = .ok (.astore_n 2, 1) := by decide +kernel
theorem dX11_figure_9 : decode cX11_figure 9 = .ok (.aload_n 2, 1) := by decide +kernel
theorem dX11_figure_10 : decode cX11_figure 10 = .ok (.ifnonnull 7, 3) := by decide +kernel
theorem dX11_figure_13 : decode cX11_figure 13 = .ok (.iconst (-1), 1) := by decide +kernel
theorem dX11_figure_14 : decode cX11_figure 14 = .ok (.goto 7, 3) := by decide +kernel
theorem dX11_figure_17 : decode cX11_figure 17 = .ok (.aload_n 2, 1) := by decide +kernel
theorem dX11_figure_18 : decode cX11_figure 18 = .ok (.invokevirtual 156, 3) := by decide +kernel
theorem dX11_figure_21 : decode cX11_figure 21 = .ok (.ireturn, 1) := by decide +kernel
theorem dX11_far_0 : decode cX11_far 0 = .ok (.aload_n 0, 1) := by decide +kernel
theorem dX11_far_1 : decode cX11_far 1 = .ok (.iload_n 1, 1) := by decide +kernel
theorem dX11_far_2 : decode cX11_far 2 = .ok (.invokevirtual 134, 3) := by decide +kernel
theorem dX11_far_5 : decode cX11_far 5 = .ok (.astore_n 3, 1) := by decide +kernel
theorem dX11_far_6 : decode cX11_far 6 = .ok (.aload_n 3, 1) := by decide +kernel
theorem dX11_far_7 : decode cX11_far 7 = .ok (.aload_n 0, 1) := by decide +kernel
theorem dX11_far_8 : decode cX11_far 8 = .ok (.iload_n 2, 1) := by decide +kernel
theorem dX11_far_9 : decode cX11_far 9 = .ok (.invokevirtual 134, 3) := by decide +kernel
theorem dX11_far_12 : decode cX11_far 12 = .ok (.invokevirtual 159, 3) := by decide +kernel
theorem dX11_far_15 : decode cX11_far 15 = .ok (.ireturn, 1) := by decide +kernel
theorem dX11_tell_0 : decode cX11_tell 0 = .ok (.aload_n 0, 1) := by decide +kernel
theorem dX11_tell_1 : decode cX11_tell 1 = .ok (.iload_n 1, 1) := by decide +kernel
theorem dX11_tell_2 : decode cX11_tell 2 = .ok (.invokevirtual 134, 3) := by decide +kernel
theorem dX11_tell_5 : decode cX11_tell 5 = .ok (.astore 4, 2) := by decide +kernel
theorem dX11_tell_7 : decode cX11_tell 7 = .ok (.aload_n 0, 1) := by decide +kernel
theorem dX11_tell_8 : decode cX11_tell 8 = .ok (.iload_n 2, 1) := by decide +kernel
theorem dX11_tell_9 : decode cX11_tell 9 = .ok (.invokevirtual 134, 3) := by decide +kernel
theorem dX11_tell_12 : decode cX11_tell 12 = .ok (.astore 5, 2) := by decide +kernel
theorem dX11_tell_14 : decode cX11_tell 14 = .ok (.iload_n 1, 1) := by decide +kernel
theorem dX11_tell_15 : decode cX11_tell 15 = .ok (.iload_n 2, 1) := by decide +kernel
theorem dX11_tell_16 : decode cX11_tell 16 = .ok (.if_icmp .eq 7, 3) := by decide +kernel
theorem dX11_tell_19 : decode cX11_tell 19 = .ok (.iconst 1, 1) := by decide +kernel
theorem dX11_tell_20 : decode cX11_tell 20 = .ok (.goto 4, 3) := by decide +kernel
theorem dX11_tell_23 : decode cX11_tell 23 = .ok (.iconst 0, 1) := by decide +kernel
theorem dX11_tell_24 : decode cX11_tell 24 = .ok (.invokestatic 86, 3) := by decide +kernel
theorem dX11_tell_27 : decode cX11_tell 27 = .ok (.aload 4, 2) := by decide +kernel
theorem dX11_tell_29 : decode cX11_tell 29 = .ok (.aload 5, 2) := by decide +kernel
theorem dX11_tell_31 : decode cX11_tell 31 = .ok (.iload_n 3, 1) := by decide +kernel
theorem dX11_tell_32 : decode cX11_tell 32 = .ok (.ifCond .eq 7, 3) := by decide +kernel
theorem dX11_tell_35 : decode cX11_tell 35 = .ok (.iconst 1, 1) := by decide +kernel
theorem dX11_tell_36 : decode cX11_tell 36 = .ok (.goto 4, 3) := by decide +kernel
theorem dX11_tell_39 : decode cX11_tell 39 = .ok (.iconst 2, 1) := by decide +kernel
theorem dX11_tell_40 : decode cX11_tell 40 = .ok (.invokevirtual 163, 3) := by decide +kernel
theorem dX11_tell_43 : decode cX11_tell 43 = .ok (.aload 5, 2) := by decide +kernel
theorem dX11_tell_45 : decode cX11_tell 45 = .ok (.aload 4, 2) := by decide +kernel
theorem dX11_tell_47 : decode cX11_tell 47 = .ok (.iload_n 3, 1) := by decide +kernel
theorem dX11_tell_48 : decode cX11_tell 48 = .ok (.ifCond .eq 7, 3) := by decide +kernel
theorem dX11_tell_51 : decode cX11_tell 51 = .ok (.iconst 1, 1) := by decide +kernel
theorem dX11_tell_52 : decode cX11_tell 52 = .ok (.goto 4, 3) := by decide +kernel
theorem dX11_tell_55 : decode cX11_tell 55 = .ok (.iconst 2, 1) := by decide +kernel
theorem dX11_tell_56 : decode cX11_tell 56 = .ok (.invokevirtual 163, 3) := by decide +kernel
theorem dX11_tell_59 : decode cX11_tell 59 = .ok (.aload_n 0, 1) := by decide +kernel
theorem dX11_tell_60 : decode cX11_tell 60 = .ok (.getfield 62, 3) := by decide +kernel
theorem dX11_tell_63 : decode cX11_tell 63 = .ok (.invokevirtual 167, 3) := by decide +kernel
theorem dX11_tell_66 : decode cX11_tell 66 = .ok (.ireturn, 1) := by decide +kernel
theorem dX11_judge_0 : decode cX11_judge 0 = .ok (.aload_n 0, 1) := by decide +kernel
theorem dX11_judge_1 : decode cX11_judge 1 = .ok (.iload_n 1, 1) := by decide +kernel
theorem dX11_judge_2 : decode cX11_judge 2 = .ok (.invokevirtual 134, 3) := by decide +kernel
theorem dX11_judge_5 : decode cX11_judge 5 = .ok (.astore 6, 2) := by decide +kernel
theorem dX11_judge_7 : decode cX11_judge 7 = .ok (.iload_n 2, 1) := by decide +kernel
theorem dX11_judge_8 : decode cX11_judge 8 = .ok (.invokestatic 170, 3) := by decide +kernel
theorem dX11_judge_11 : decode cX11_judge 11 = .ok (.ifCond .eq 15, 3) := by decide +kernel
theorem dX11_judge_14 : decode cX11_judge 14 = .ok (.aload_n 0, 1) := by decide +kernel
theorem dX11_judge_15 : decode cX11_judge 15 = .ok (.iload_n 3, 1) := by decide +kernel
theorem dX11_judge_16 : decode cX11_judge 16 = .ok (.invokevirtual 173, 3) := by decide +kernel
theorem dX11_judge_19 : decode cX11_judge 19 = .ok (.ifCond .eq 7, 3) := by decide +kernel
theorem dX11_judge_22 : decode cX11_judge 22 = .ok (.iconst 1, 1) := by decide +kernel
theorem dX11_judge_23 : decode cX11_judge 23 = .ok (.goto 4, 3) := by decide +kernel
theorem dX11_judge_26 : decode cX11_judge 26 = .ok (.iconst 0, 1) := by decide +kernel
theorem dX11_judge_27 : decode cX11_judge 27 = .ok (.invokestatic 86, 3) := by decide +kernel
theorem dX11_judge_30 : decode cX11_judge 30 = .ok (.aload_n 0, 1) := by decide +kernel
theorem dX11_judge_31 : decode cX11_judge 31 = .ok (.invokevirtual 176, 3) := by decide +kernel
theorem dX11_judge_34 : decode cX11_judge 34 = .ok (.aload_n 0, 1) := by decide +kernel
theorem dX11_judge_35 : decode cX11_judge 35 = .ok (.aload 6, 2) := by decide +kernel
theorem dX11_judge_37 : decode cX11_judge 37 = .ok (.iload_n 2, 1) := by decide +kernel
theorem dX11_judge_38 : decode cX11_judge 38 = .ok (.iload_n 3, 1) := by decide +kernel
theorem dX11_judge_39 : decode cX11_judge 39 = .ok (.iload 4, 2) := by decide +kernel
theorem dX11_judge_41 : decode cX11_judge 41 = .ok (.invokevirtual 180, 3) := by decide +kernel
theorem dX11_judge_44 : decode cX11_judge 44 = .ok (.invokevirtual 90, 3) := by decide +kernel
theorem dX11_judge_47 : decode cX11_judge 47 = .ok (.astore 7, 2) := by decide +kernel
theorem dX11_judge_49 : decode cX11_judge 49 = .ok (.iload 5, 2) := by decide +kernel
theorem dX11_judge_51 : decode cX11_judge 51 = .ok (.tableswitch 81 0 5 #[37, 43, 49, 55, 61, 75], 37) := by decide +kernel
theorem dX11_judge_88 : decode cX11_judge 88 = .ok (.aload 7, 2) := by decide +kernel
theorem dX11_judge_90 : decode cX11_judge 90 = .ok (.getfield 184, 3) := by decide +kernel
theorem dX11_judge_93 : decode cX11_judge 93 = .ok (.ireturn, 1) := by decide +kernel
theorem dX11_judge_94 : decode cX11_judge 94 = .ok (.aload 7, 2) := by decide +kernel
theorem dX11_judge_96 : decode cX11_judge 96 = .ok (.getfield 189, 3) := by decide +kernel
theorem dX11_judge_99 : decode cX11_judge 99 = .ok (.ireturn, 1) := by decide +kernel
theorem dX11_judge_100 : decode cX11_judge 100 = .ok (.aload 7, 2) := by decide +kernel
theorem dX11_judge_102 : decode cX11_judge 102 = .ok (.invokevirtual 192, 3) := by decide +kernel
theorem dX11_judge_105 : decode cX11_judge 105 = .ok (.ireturn, 1) := by decide +kernel
theorem dX11_judge_106 : decode cX11_judge 106 = .ok (.aload 7, 2) := by decide +kernel
theorem dX11_judge_108 : decode cX11_judge 108 = .ok (.getfield 195, 3) := by decide +kernel
theorem dX11_judge_111 : decode cX11_judge 111 = .ok (.ireturn, 1) := by decide +kernel
theorem dX11_judge_112 : decode cX11_judge 112 = .ok (.aload 7, 2) := by decide +kernel
theorem dX11_judge_114 : decode cX11_judge 114 = .ok (.getfield 198, 3) := by decide +kernel
theorem dX11_judge_117 : decode cX11_judge 117 = .ok (.ifCond .eq 7, 3) := by decide +kernel
theorem dX11_judge_120 : decode cX11_judge 120 = .ok (.iconst 1, 1) := by decide +kernel
theorem dX11_judge_121 : decode cX11_judge 121 = .ok (.goto 4, 3) := by decide +kernel
theorem dX11_judge_124 : decode cX11_judge 124 = .ok (.iconst 0, 1) := by decide +kernel
theorem dX11_judge_125 : decode cX11_judge 125 = .ok (.ireturn, 1) := by decide +kernel
theorem dX11_judge_126 : decode cX11_judge 126 = .ok (.aload 7, 2) := by decide +kernel
theorem dX11_judge_128 : decode cX11_judge 128 = .ok (.getfield 202, 3) := by decide +kernel
theorem dX11_judge_131 : decode cX11_judge 131 = .ok (.ireturn, 1) := by decide +kernel
theorem dX11_judge_132 : decode cX11_judge 132 = .ok (.new 205, 3) := by decide +kernel
theorem dX11_judge_135 : decode cX11_judge 135 = .ok (.dup, 1) := by decide +kernel
theorem dX11_judge_136 : decode cX11_judge 136 = .ok (.invokespecial 207, 3) := by decide +kernel
theorem dX11_judge_139 : decode cX11_judge 139 = .ok (.athrow, 1) := by decide +kernel
theorem dX11_isKind_0 : decode cX11_isKind 0 = .ok (.iload_n 0, 1) := by decide +kernel
theorem dX11_isKind_1 : decode cX11_isKind 1 = .ok (.ifCond .lt 12, 3) := by decide +kernel
theorem dX11_isKind_4 : decode cX11_isKind 4 = .ok (.iload_n 0, 1) := by decide +kernel
theorem dX11_isKind_5 : decode cX11_isKind 5 = .ok (.iconst 4, 1) := by decide +kernel
theorem dX11_isKind_6 : decode cX11_isKind 6 = .ok (.if_icmp .ge 7, 3) := by decide +kernel
theorem dX11_isKind_9 : decode cX11_isKind 9 = .ok (.iconst 1, 1) := by decide +kernel
theorem dX11_isKind_10 : decode cX11_isKind 10 = .ok (.goto 4, 3) := by decide +kernel
theorem dX11_isKind_13 : decode cX11_isKind 13 = .ok (.iconst 0, 1) := by decide +kernel
theorem dX11_isKind_14 : decode cX11_isKind 14 = .ok (.ireturn, 1) := by decide +kernel
theorem dX11_isWanted_0 : decode cX11_isWanted 0 = .ok (.iload_n 1, 1) := by decide +kernel
theorem dX11_isWanted_1 : decode cX11_isWanted 1 = .ok (.aload_n 0, 1) := by decide +kernel
theorem dX11_isWanted_2 : decode cX11_isWanted 2 = .ok (.getfield 62, 3) := by decide +kernel
theorem dX11_isWanted_5 : decode cX11_isWanted 5 = .ok (.getfield 83, 3) := by decide +kernel
theorem dX11_isWanted_8 : decode cX11_isWanted 8 = .ok (.if_icmp .lt 14, 3) := by decide +kernel
theorem dX11_isWanted_11 : decode cX11_isWanted 11 = .ok (.iload_n 1, 1) := by decide +kernel
theorem dX11_isWanted_12 : decode cX11_isWanted 12 = .ok (.sipush 1000, 3) := by decide +kernel
theorem dX11_isWanted_15 : decode cX11_isWanted 15 = .ok (.if_icmp .gt 7, 3) := by decide +kernel
theorem dX11_isWanted_18 : decode cX11_isWanted 18 = .ok (.iconst 1, 1) := by decide +kernel
theorem dX11_isWanted_19 : decode cX11_isWanted 19 = .ok (.goto 4, 3) := by decide +kernel
theorem dX11_isWanted_22 : decode cX11_isWanted 22 = .ok (.iconst 0, 1) := by decide +kernel
theorem dX11_isWanted_23 : decode cX11_isWanted 23 = .ok (.ireturn, 1) := by decide +kernel
theorem dX11_isItems_0 : decode cX11_isItems 0 = .ok (.iload_n 0, 1) := by decide +kernel
theorem dX11_isItems_1 : decode cX11_isItems 1 = .ok (.ifCond .lt 14, 3) := by decide +kernel
theorem dX11_isItems_4 : decode cX11_isItems 4 = .ok (.iload_n 0, 1) := by decide +kernel
theorem dX11_isItems_5 : decode cX11_isItems 5 = .ok (.sipush 255, 3) := by decide +kernel
theorem dX11_isItems_8 : decode cX11_isItems 8 = .ok (.if_icmp .gt 7, 3) := by decide +kernel
theorem dX11_isItems_11 : decode cX11_isItems 11 = .ok (.iconst 1, 1) := by decide +kernel
theorem dX11_isItems_12 : decode cX11_isItems 12 = .ok (.goto 4, 3) := by decide +kernel
theorem dX11_isItems_15 : decode cX11_isItems 15 = .ok (.iconst 0, 1) := by decide +kernel
theorem dX11_isItems_16 : decode cX11_isItems 16 = .ok (.ireturn, 1) := by decide +kernel
theorem dX11_factsOf_0 : decode cX11_factsOf 0 = .ok (.bipush 9, 2) := by decide +kernel
theorem dX11_factsOf_2 : decode cX11_factsOf 2 = .ok (.newarray .int, 2) := by decide +kernel
theorem dX11_factsOf_4 : decode cX11_factsOf 4 = .ok (.dup, 1) := by decide +kernel
theorem dX11_factsOf_5 : decode cX11_factsOf 5 = .ok (.iconst 0, 1) := by decide +kernel
theorem dX11_factsOf_6 : decode cX11_factsOf 6 = .ok (.aload_n 0, 1) := by decide +kernel
theorem dX11_factsOf_7 : decode cX11_factsOf 7 = .ok (.getfield 62, 3) := by decide +kernel
theorem dX11_factsOf_10 : decode cX11_factsOf 10 = .ok (.getfield 83, 3) := by decide +kernel
theorem dX11_factsOf_13 : decode cX11_factsOf 13 = .ok (.aload_n 1, 1) := by decide +kernel
theorem dX11_factsOf_14 : decode cX11_factsOf 14 = .ok (.getfield 208, 3) := by decide +kernel
theorem dX11_factsOf_17 : decode cX11_factsOf 17 = .ok (.isub, 1) := by decide +kernel
theorem dX11_factsOf_18 : decode cX11_factsOf 18 = .ok (.sipush 365, 3) := by decide +kernel
theorem dX11_factsOf_21 : decode cX11_factsOf 21 = .ok (.idiv, 1) := by decide +kernel
theorem dX11_factsOf_22 : decode cX11_factsOf 22 = .ok (.iastore, 1) := by decide +kernel
theorem dX11_factsOf_23 : decode cX11_factsOf 23 = .ok (.dup, 1) := by decide +kernel
theorem dX11_factsOf_24 : decode cX11_factsOf 24 = .ok (.iconst 1, 1) := by decide +kernel
theorem dX11_factsOf_25 : decode cX11_factsOf 25 = .ok (.iload_n 3, 1) := by decide +kernel
theorem dX11_factsOf_26 : decode cX11_factsOf 26 = .ok (.aload_n 0, 1) := by decide +kernel
theorem dX11_factsOf_27 : decode cX11_factsOf 27 = .ok (.getfield 62, 3) := by decide +kernel
theorem dX11_factsOf_30 : decode cX11_factsOf 30 = .ok (.getfield 83, 3) := by decide +kernel
theorem dX11_factsOf_33 : decode cX11_factsOf 33 = .ok (.isub, 1) := by decide +kernel
theorem dX11_factsOf_34 : decode cX11_factsOf 34 = .ok (.iastore, 1) := by decide +kernel
theorem dX11_factsOf_35 : decode cX11_factsOf 35 = .ok (.dup, 1) := by decide +kernel
theorem dX11_factsOf_36 : decode cX11_factsOf 36 = .ok (.iconst 2, 1) := by decide +kernel
theorem dX11_factsOf_37 : decode cX11_factsOf 37 = .ok (.aload_n 0, 1) := by decide +kernel
theorem dX11_factsOf_38 : decode cX11_factsOf 38 = .ok (.getfield 62, 3) := by decide +kernel
theorem dX11_factsOf_41 : decode cX11_factsOf 41 = .ok (.aload_n 1, 1) := by decide +kernel
theorem dX11_factsOf_42 : decode cX11_factsOf 42 = .ok (.aload_n 0, 1) := by decide +kernel
theorem dX11_factsOf_43 : decode cX11_factsOf 43 = .ok (.getfield 62, 3) := by decide +kernel
theorem dX11_factsOf_46 : decode cX11_factsOf 46 = .ok (.getfield 83, 3) := by decide +kernel
theorem dX11_factsOf_49 : decode cX11_factsOf 49 = .ok (.invokevirtual 211, 3) := by decide +kernel
theorem dX11_factsOf_52 : decode cX11_factsOf 52 = .ok (.iastore, 1) := by decide +kernel
theorem dX11_factsOf_53 : decode cX11_factsOf 53 = .ok (.dup, 1) := by decide +kernel
theorem dX11_factsOf_54 : decode cX11_factsOf 54 = .ok (.iconst 3, 1) := by decide +kernel
theorem dX11_factsOf_55 : decode cX11_factsOf 55 = .ok (.aload_n 1, 1) := by decide +kernel
theorem dX11_factsOf_56 : decode cX11_factsOf 56 = .ok (.getfield 215, 3) := by decide +kernel
theorem dX11_factsOf_59 : decode cX11_factsOf 59 = .ok (.ifCond .eq 7, 3) := by decide +kernel
theorem dX11_factsOf_62 : decode cX11_factsOf 62 = .ok (.iconst 1, 1) := by decide +kernel
theorem dX11_factsOf_63 : decode cX11_factsOf 63 = .ok (.goto 4, 3) := by decide +kernel
theorem dX11_factsOf_66 : decode cX11_factsOf 66 = .ok (.iconst 0, 1) := by decide +kernel
theorem dX11_factsOf_67 : decode cX11_factsOf 67 = .ok (.iastore, 1) := by decide +kernel
theorem dX11_factsOf_68 : decode cX11_factsOf 68 = .ok (.dup, 1) := by decide +kernel
theorem dX11_factsOf_69 : decode cX11_factsOf 69 = .ok (.iconst 4, 1) := by decide +kernel
theorem dX11_factsOf_70 : decode cX11_factsOf 70 = .ok (.iload_n 2, 1) := by decide +kernel
theorem dX11_factsOf_71 : decode cX11_factsOf 71 = .ok (.ifCond .ne 7, 3) := by decide +kernel
theorem dX11_factsOf_74 : decode cX11_factsOf 74 = .ok (.iconst 1, 1) := by decide +kernel
theorem dX11_factsOf_75 : decode cX11_factsOf 75 = .ok (.goto 4, 3) := by decide +kernel
theorem dX11_factsOf_78 : decode cX11_factsOf 78 = .ok (.iconst 0, 1) := by decide +kernel
theorem dX11_factsOf_79 : decode cX11_factsOf 79 = .ok (.iastore, 1) := by decide +kernel
theorem dX11_factsOf_80 : decode cX11_factsOf 80 = .ok (.dup, 1) := by decide +kernel
theorem dX11_factsOf_81 : decode cX11_factsOf 81 = .ok (.iconst 5, 1) := by decide +kernel
theorem dX11_factsOf_82 : decode cX11_factsOf 82 = .ok (.iload_n 2, 1) := by decide +kernel
theorem dX11_factsOf_83 : decode cX11_factsOf 83 = .ok (.iconst 1, 1) := by decide +kernel
theorem dX11_factsOf_84 : decode cX11_factsOf 84 = .ok (.if_icmp .ne 7, 3) := by decide +kernel
theorem dX11_factsOf_87 : decode cX11_factsOf 87 = .ok (.iconst 1, 1) := by decide +kernel
theorem dX11_factsOf_88 : decode cX11_factsOf 88 = .ok (.goto 4, 3) := by decide +kernel
theorem dX11_factsOf_91 : decode cX11_factsOf 91 = .ok (.iconst 0, 1) := by decide +kernel
theorem dX11_factsOf_92 : decode cX11_factsOf 92 = .ok (.iastore, 1) := by decide +kernel
theorem dX11_factsOf_93 : decode cX11_factsOf 93 = .ok (.dup, 1) := by decide +kernel
theorem dX11_factsOf_94 : decode cX11_factsOf 94 = .ok (.bipush 6, 2) := by decide +kernel
theorem dX11_factsOf_96 : decode cX11_factsOf 96 = .ok (.iload_n 2, 1) := by decide +kernel
theorem dX11_factsOf_97 : decode cX11_factsOf 97 = .ok (.iconst 2, 1) := by decide +kernel
theorem dX11_factsOf_98 : decode cX11_factsOf 98 = .ok (.if_icmp .ne 7, 3) := by decide +kernel
theorem dX11_factsOf_101 : decode cX11_factsOf 101 = .ok (.iconst 1, 1) := by decide +kernel
theorem dX11_factsOf_102 : decode cX11_factsOf 102 = .ok (.goto 4, 3) := by decide +kernel
theorem dX11_factsOf_105 : decode cX11_factsOf 105 = .ok (.iconst 0, 1) := by decide +kernel
theorem dX11_factsOf_106 : decode cX11_factsOf 106 = .ok (.iastore, 1) := by decide +kernel
theorem dX11_factsOf_107 : decode cX11_factsOf 107 = .ok (.dup, 1) := by decide +kernel
theorem dX11_factsOf_108 : decode cX11_factsOf 108 = .ok (.bipush 7, 2) := by decide +kernel
theorem dX11_factsOf_110 : decode cX11_factsOf 110 = .ok (.iload_n 2, 1) := by decide +kernel
theorem dX11_factsOf_111 : decode cX11_factsOf 111 = .ok (.iconst 3, 1) := by decide +kernel
theorem dX11_factsOf_112 : decode cX11_factsOf 112 = .ok (.if_icmp .ne 7, 3) := by decide +kernel
theorem dX11_factsOf_115 : decode cX11_factsOf 115 = .ok (.iconst 1, 1) := by decide +kernel
theorem dX11_factsOf_116 : decode cX11_factsOf 116 = .ok (.goto 4, 3) := by decide +kernel
theorem dX11_factsOf_119 : decode cX11_factsOf 119 = .ok (.iconst 0, 1) := by decide +kernel
theorem dX11_factsOf_120 : decode cX11_factsOf 120 = .ok (.iastore, 1) := by decide +kernel
theorem dX11_factsOf_121 : decode cX11_factsOf 121 = .ok (.dup, 1) := by decide +kernel
theorem dX11_factsOf_122 : decode cX11_factsOf 122 = .ok (.bipush 8, 2) := by decide +kernel
theorem dX11_factsOf_124 : decode cX11_factsOf 124 = .ok (.iload 4, 2) := by decide +kernel
theorem dX11_factsOf_126 : decode cX11_factsOf 126 = .ok (.ifCond .eq 7, 3) := by decide +kernel
theorem dX11_factsOf_129 : decode cX11_factsOf 129 = .ok (.iconst 1, 1) := by decide +kernel
theorem dX11_factsOf_130 : decode cX11_factsOf 130 = .ok (.goto 4, 3) := by decide +kernel
theorem dX11_factsOf_133 : decode cX11_factsOf 133 = .ok (.iconst 0, 1) := by decide +kernel
theorem dX11_factsOf_134 : decode cX11_factsOf 134 = .ok (.iastore, 1) := by decide +kernel
theorem dX11_factsOf_135 : decode cX11_factsOf 135 = .ok (.astore 5, 2) := by decide +kernel
theorem dX11_factsOf_137 : decode cX11_factsOf 137 = .ok (.aload 5, 2) := by decide +kernel
theorem dX11_factsOf_139 : decode cX11_factsOf 139 = .ok (.areturn, 1) := by decide +kernel
theorem dX11_ask_0 : decode cX11_ask 0 = .ok (.aload_n 0, 1) := by decide +kernel
theorem dX11_ask_1 : decode cX11_ask 1 = .ok (.iload_n 1, 1) := by decide +kernel
theorem dX11_ask_2 : decode cX11_ask 2 = .ok (.invokevirtual 134, 3) := by decide +kernel
theorem dX11_ask_5 : decode cX11_ask 5 = .ok (.astore 6, 2) := by decide +kernel
theorem dX11_ask_7 : decode cX11_ask 7 = .ok (.iload_n 2, 1) := by decide +kernel
theorem dX11_ask_8 : decode cX11_ask 8 = .ok (.invokestatic 170, 3) := by decide +kernel
theorem dX11_ask_11 : decode cX11_ask 11 = .ok (.ifCond .eq 23, 3) := by decide +kernel
theorem dX11_ask_14 : decode cX11_ask 14 = .ok (.aload_n 0, 1) := by decide +kernel
theorem dX11_ask_15 : decode cX11_ask 15 = .ok (.iload_n 3, 1) := by decide +kernel
theorem dX11_ask_16 : decode cX11_ask 16 = .ok (.invokevirtual 173, 3) := by decide +kernel
theorem dX11_ask_19 : decode cX11_ask 19 = .ok (.ifCond .eq 15, 3) := by decide +kernel
theorem dX11_ask_22 : decode cX11_ask 22 = .ok (.iload 4, 2) := by decide +kernel
theorem dX11_ask_24 : decode cX11_ask 24 = .ok (.invokestatic 220, 3) := by decide +kernel
theorem dX11_ask_27 : decode cX11_ask 27 = .ok (.ifCond .eq 7, 3) := by decide +kernel
theorem dX11_ask_30 : decode cX11_ask 30 = .ok (.iconst 1, 1) := by decide +kernel
theorem dX11_ask_31 : decode cX11_ask 31 = .ok (.goto 4, 3) := by decide +kernel
theorem dX11_ask_34 : decode cX11_ask 34 = .ok (.iconst 0, 1) := by decide +kernel
theorem dX11_ask_35 : decode cX11_ask 35 = .ok (.invokestatic 86, 3) := by decide +kernel
theorem dX11_ask_38 : decode cX11_ask 38 = .ok (.aload_n 0, 1) := by decide +kernel
theorem dX11_ask_39 : decode cX11_ask 39 = .ok (.getfield 62, 3) := by decide +kernel
theorem dX11_ask_42 : decode cX11_ask 42 = .ok (.getfield 223, 3) := by decide +kernel
theorem dX11_ask_45 : decode cX11_ask 45 = .ok (.invokevirtual 97, 3) := by decide +kernel
theorem dX11_ask_48 : decode cX11_ask 48 = .ok (.bipush 120, 2) := by decide +kernel
theorem dX11_ask_50 : decode cX11_ask 50 = .ok (.if_icmp .lt 11, 3) := by decide +kernel
theorem dX11_ask_53 : decode cX11_ask 53 = .ok (.new 101, 3) := by decide +kernel
theorem dX11_ask_56 : decode cX11_ask 56 = .ok (.dup, 1) := by decide +kernel
theorem dX11_ask_57 : decode cX11_ask 57 = .ok (.invokespecial 103, 3) := by decide +kernel
theorem dX11_ask_60 : decode cX11_ask 60 = .ok (.athrow, 1) := by decide +kernel
theorem dX11_ask_61 : decode cX11_ask 61 = .ok (.aload_n 0, 1) := by decide +kernel
theorem dX11_ask_62 : decode cX11_ask 62 = .ok (.invokevirtual 176, 3) := by decide +kernel
theorem dX11_ask_65 : decode cX11_ask 65 = .ok (.aload_n 0, 1) := by decide +kernel
theorem dX11_ask_66 : decode cX11_ask 66 = .ok (.aload 6, 2) := by decide +kernel
theorem dX11_ask_68 : decode cX11_ask 68 = .ok (.iload_n 2, 1) := by decide +kernel
theorem dX11_ask_69 : decode cX11_ask 69 = .ok (.iload_n 3, 1) := by decide +kernel
theorem dX11_ask_70 : decode cX11_ask 70 = .ok (.iload 5, 2) := by decide +kernel
theorem dX11_ask_72 : decode cX11_ask 72 = .ok (.invokevirtual 180, 3) := by decide +kernel
theorem dX11_ask_75 : decode cX11_ask 75 = .ok (.invokevirtual 90, 3) := by decide +kernel
theorem dX11_ask_78 : decode cX11_ask 78 = .ok (.astore 7, 2) := by decide +kernel
theorem dX11_ask_80 : decode cX11_ask 80 = .ok (.new 218, 3) := by decide +kernel
theorem dX11_ask_83 : decode cX11_ask 83 = .ok (.dup, 1) := by decide +kernel
theorem dX11_ask_84 : decode cX11_ask 84 = .ok (.aload_n 0, 1) := by decide +kernel
theorem dX11_ask_85 : decode cX11_ask 85 = .ok (.getfield 62, 3) := by decide +kernel
theorem dX11_ask_88 : decode cX11_ask 88 = .ok (.getfield 223, 3) := by decide +kernel
theorem dX11_ask_91 : decode cX11_ask 91 = .ok (.invokevirtual 97, 3) := by decide +kernel
theorem dX11_ask_94 : decode cX11_ask 94 = .ok (.aload 6, 2) := by decide +kernel
theorem dX11_ask_96 : decode cX11_ask 96 = .ok (.iload_n 2, 1) := by decide +kernel
theorem dX11_ask_97 : decode cX11_ask 97 = .ok (.aload_n 0, 1) := by decide +kernel
theorem dX11_ask_98 : decode cX11_ask 98 = .ok (.getfield 62, 3) := by decide +kernel
theorem dX11_ask_101 : decode cX11_ask 101 = .ok (.getfield 83, 3) := by decide +kernel
theorem dX11_ask_104 : decode cX11_ask 104 = .ok (.iload_n 3, 1) := by decide +kernel
theorem dX11_ask_105 : decode cX11_ask 105 = .ok (.iload 5, 2) := by decide +kernel
theorem dX11_ask_107 : decode cX11_ask 107 = .ok (.aload 7, 2) := by decide +kernel
theorem dX11_ask_109 : decode cX11_ask 109 = .ok (.invokespecial 226, 3) := by decide +kernel
theorem dX11_ask_112 : decode cX11_ask 112 = .ok (.astore 8, 2) := by decide +kernel
theorem dX11_ask_114 : decode cX11_ask 114 = .ok (.aload 8, 2) := by decide +kernel
theorem dX11_ask_116 : decode cX11_ask 116 = .ok (.iload 4, 2) := by decide +kernel
theorem dX11_ask_118 : decode cX11_ask 118 = .ok (.putfield 229, 3) := by decide +kernel
theorem dX11_ask_121 : decode cX11_ask 121 = .ok (.aload_n 0, 1) := by decide +kernel
theorem dX11_ask_122 : decode cX11_ask 122 = .ok (.getfield 62, 3) := by decide +kernel
theorem dX11_ask_125 : decode cX11_ask 125 = .ok (.getfield 223, 3) := by decide +kernel
theorem dX11_ask_128 : decode cX11_ask 128 = .ok (.aload 8, 2) := by decide +kernel
theorem dX11_ask_130 : decode cX11_ask 130 = .ok (.invokevirtual 104, 3) := by decide +kernel
theorem dX11_ask_133 : decode cX11_ask 133 = .ok (.pop, 1) := by decide +kernel
theorem dX11_ask_134 : decode cX11_ask 134 = .ok (.aload_n 0, 1) := by decide +kernel
theorem dX11_ask_135 : decode cX11_ask 135 = .ok (.getfield 62, 3) := by decide +kernel
theorem dX11_ask_138 : decode cX11_ask 138 = .ok (.dup, 1) := by decide +kernel
theorem dX11_ask_139 : decode cX11_ask 139 = .ok (.getfield 232, 3) := by decide +kernel
theorem dX11_ask_142 : decode cX11_ask 142 = .ok (.aload 7, 2) := by decide +kernel
theorem dX11_ask_144 : decode cX11_ask 144 = .ok (.getfield 189, 3) := by decide +kernel
theorem dX11_ask_147 : decode cX11_ask 147 = .ok (.iadd, 1) := by decide +kernel
theorem dX11_ask_148 : decode cX11_ask 148 = .ok (.putfield 232, 3) := by decide +kernel
theorem dX11_ask_151 : decode cX11_ask 151 = .ok (.aload 8, 2) := by decide +kernel
theorem dX11_ask_153 : decode cX11_ask 153 = .ok (.getfield 235, 3) := by decide +kernel
theorem dX11_ask_156 : decode cX11_ask 156 = .ok (.ireturn, 1) := by decide +kernel
theorem dX11_give_0 : decode cX11_give 0 = .ok (.aload_n 0, 1) := by decide +kernel
theorem dX11_give_1 : decode cX11_give 1 = .ok (.iload_n 1, 1) := by decide +kernel
theorem dX11_give_2 : decode cX11_give 2 = .ok (.invokevirtual 236, 3) := by decide +kernel
theorem dX11_give_5 : decode cX11_give 5 = .ok (.astore_n 3, 1) := by decide +kernel
theorem dX11_give_6 : decode cX11_give 6 = .ok (.iload_n 2, 1) := by decide +kernel
theorem dX11_give_7 : decode cX11_give 7 = .ok (.invokestatic 220, 3) := by decide +kernel
theorem dX11_give_10 : decode cX11_give 10 = .ok (.invokestatic 86, 3) := by decide +kernel
theorem dX11_give_13 : decode cX11_give 13 = .ok (.aload_n 3, 1) := by decide +kernel
theorem dX11_give_14 : decode cX11_give 14 = .ok (.getfield 240, 3) := by decide +kernel
theorem dX11_give_17 : decode cX11_give 17 = .ok (.iconst 1, 1) := by decide +kernel
theorem dX11_give_18 : decode cX11_give 18 = .ok (.if_icmp .ne 7, 3) := by decide +kernel
theorem dX11_give_21 : decode cX11_give 21 = .ok (.iconst 1, 1) := by decide +kernel
theorem dX11_give_22 : decode cX11_give 22 = .ok (.goto 4, 3) := by decide +kernel
theorem dX11_give_25 : decode cX11_give 25 = .ok (.iconst 0, 1) := by decide +kernel
theorem dX11_give_26 : decode cX11_give 26 = .ok (.invokestatic 243, 3) := by decide +kernel
theorem dX11_give_29 : decode cX11_give 29 = .ok (.aload_n 3, 1) := by decide +kernel
theorem dX11_give_30 : decode cX11_give 30 = .ok (.dup, 1) := by decide +kernel
theorem dX11_give_31 : decode cX11_give 31 = .ok (.getfield 229, 3) := by decide +kernel
theorem dX11_give_34 : decode cX11_give 34 = .ok (.iload_n 2, 1) := by decide +kernel
theorem dX11_give_35 : decode cX11_give 35 = .ok (.ior, 1) := by decide +kernel
theorem dX11_give_36 : decode cX11_give 36 = .ok (.putfield 229, 3) := by decide +kernel
theorem dX11_give_39 : decode cX11_give 39 = .ok (.aload_n 3, 1) := by decide +kernel
theorem dX11_give_40 : decode cX11_give 40 = .ok (.invokevirtual 246, 3) := by decide +kernel
theorem dX11_give_43 : decode cX11_give 43 = .ok (.ifCond .ne 8, 3) := by decide +kernel
theorem dX11_give_46 : decode cX11_give 46 = .ok (.aload_n 3, 1) := by decide +kernel
theorem dX11_give_47 : decode cX11_give 47 = .ok (.iconst 0, 1) := by decide +kernel
theorem dX11_give_48 : decode cX11_give 48 = .ok (.putfield 240, 3) := by decide +kernel
theorem dX11_give_51 : decode cX11_give 51 = .ok (.aload_n 3, 1) := by decide +kernel
theorem dX11_give_52 : decode cX11_give 52 = .ok (.invokevirtual 246, 3) := by decide +kernel
theorem dX11_give_55 : decode cX11_give 55 = .ok (.ireturn, 1) := by decide +kernel
theorem dX11_refuse_0 : decode cX11_refuse 0 = .ok (.aload_n 0, 1) := by decide +kernel
theorem dX11_refuse_1 : decode cX11_refuse 1 = .ok (.iload_n 1, 1) := by decide +kernel
theorem dX11_refuse_2 : decode cX11_refuse 2 = .ok (.invokevirtual 236, 3) := by decide +kernel
theorem dX11_refuse_5 : decode cX11_refuse 5 = .ok (.astore_n 2, 1) := by decide +kernel
theorem dX11_refuse_6 : decode cX11_refuse 6 = .ok (.aload_n 2, 1) := by decide +kernel
theorem dX11_refuse_7 : decode cX11_refuse 7 = .ok (.invokevirtual 249, 3) := by decide +kernel
theorem dX11_refuse_10 : decode cX11_refuse 10 = .ok (.invokestatic 243, 3) := by decide +kernel
theorem dX11_refuse_13 : decode cX11_refuse 13 = .ok (.aload_n 2, 1) := by decide +kernel
theorem dX11_refuse_14 : decode cX11_refuse 14 = .ok (.bipush 9, 2) := by decide +kernel
theorem dX11_refuse_16 : decode cX11_refuse 16 = .ok (.putfield 240, 3) := by decide +kernel
theorem dX11_refuse_19 : decode cX11_refuse 19 = .ok (.return_, 1) := by decide +kernel
theorem dX11_lose_0 : decode cX11_lose 0 = .ok (.aload_n 0, 1) := by decide +kernel
theorem dX11_lose_1 : decode cX11_lose 1 = .ok (.iload_n 1, 1) := by decide +kernel
theorem dX11_lose_2 : decode cX11_lose 2 = .ok (.invokevirtual 236, 3) := by decide +kernel
theorem dX11_lose_5 : decode cX11_lose 5 = .ok (.astore_n 2, 1) := by decide +kernel
theorem dX11_lose_6 : decode cX11_lose 6 = .ok (.aload_n 2, 1) := by decide +kernel
theorem dX11_lose_7 : decode cX11_lose 7 = .ok (.getfield 240, 3) := by decide +kernel
theorem dX11_lose_10 : decode cX11_lose 10 = .ok (.bipush 6, 2) := by decide +kernel
theorem dX11_lose_12 : decode cX11_lose 12 = .ok (.if_icmp .ne 7, 3) := by decide +kernel
theorem dX11_lose_15 : decode cX11_lose 15 = .ok (.iconst 1, 1) := by decide +kernel
theorem dX11_lose_16 : decode cX11_lose 16 = .ok (.goto 4, 3) := by decide +kernel
theorem dX11_lose_19 : decode cX11_lose 19 = .ok (.iconst 0, 1) := by decide +kernel
theorem dX11_lose_20 : decode cX11_lose 20 = .ok (.invokestatic 243, 3) := by decide +kernel
theorem dX11_lose_23 : decode cX11_lose 23 = .ok (.aload_n 2, 1) := by decide +kernel
theorem dX11_lose_24 : decode cX11_lose 24 = .ok (.bipush 8, 2) := by decide +kernel
theorem dX11_lose_26 : decode cX11_lose 26 = .ok (.putfield 240, 3) := by decide +kernel
theorem dX11_lose_29 : decode cX11_lose 29 = .ok (.aload_n 0, 1) := by decide +kernel
theorem dX11_lose_30 : decode cX11_lose 30 = .ok (.getfield 62, 3) := by decide +kernel
theorem dX11_lose_33 : decode cX11_lose 33 = .ok (.aload_n 2, 1) := by decide +kernel
theorem dX11_lose_34 : decode cX11_lose 34 = .ok (.getfield 253, 3) := by decide +kernel
theorem dX11_lose_37 : decode cX11_lose 37 = .ok (.invokevirtual 256, 3) := by decide +kernel
theorem dX11_lose_40 : decode cX11_lose 40 = .ok (.return_, 1) := by decide +kernel
theorem dX11_again_0 : decode cX11_again 0 = .ok (.aload_n 0, 1) := by decide +kernel
theorem dX11_again_1 : decode cX11_again 1 = .ok (.iload_n 1, 1) := by decide +kernel
theorem dX11_again_2 : decode cX11_again 2 = .ok (.invokevirtual 236, 3) := by decide +kernel
theorem dX11_again_5 : decode cX11_again 5 = .ok (.astore_n 2, 1) := by decide +kernel
theorem dX11_again_6 : decode cX11_again 6 = .ok (.aload_n 2, 1) := by decide +kernel
theorem dX11_again_7 : decode cX11_again 7 = .ok (.getfield 240, 3) := by decide +kernel
theorem dX11_again_10 : decode cX11_again 10 = .ok (.bipush 8, 2) := by decide +kernel
theorem dX11_again_12 : decode cX11_again 12 = .ok (.if_icmp .ne 7, 3) := by decide +kernel
theorem dX11_again_15 : decode cX11_again 15 = .ok (.iconst 1, 1) := by decide +kernel
theorem dX11_again_16 : decode cX11_again 16 = .ok (.goto 4, 3) := by decide +kernel
theorem dX11_again_19 : decode cX11_again 19 = .ok (.iconst 0, 1) := by decide +kernel
theorem dX11_again_20 : decode cX11_again 20 = .ok (.invokestatic 243, 3) := by decide +kernel
theorem dX11_again_23 : decode cX11_again 23 = .ok (.aload_n 2, 1) := by decide +kernel
theorem dX11_again_24 : decode cX11_again 24 = .ok (.iconst 5, 1) := by decide +kernel
theorem dX11_again_25 : decode cX11_again 25 = .ok (.putfield 240, 3) := by decide +kernel
theorem dX11_again_28 : decode cX11_again 28 = .ok (.aload_n 2, 1) := by decide +kernel
theorem dX11_again_29 : decode cX11_again 29 = .ok (.iconst (-1), 1) := by decide +kernel
theorem dX11_again_30 : decode cX11_again 30 = .ok (.putfield 259, 3) := by decide +kernel
theorem dX11_again_33 : decode cX11_again 33 = .ok (.return_, 1) := by decide +kernel
theorem dX11_led_0 : decode cX11_led 0 = .ok (.aload_n 0, 1) := by decide +kernel
theorem dX11_led_1 : decode cX11_led 1 = .ok (.iload_n 1, 1) := by decide +kernel
theorem dX11_led_2 : decode cX11_led 2 = .ok (.invokevirtual 236, 3) := by decide +kernel
theorem dX11_led_5 : decode cX11_led 5 = .ok (.astore_n 3, 1) := by decide +kernel
theorem dX11_led_6 : decode cX11_led 6 = .ok (.iload_n 2, 1) := by decide +kernel
theorem dX11_led_7 : decode cX11_led 7 = .ok (.tableswitch 177 0 15 #[77, 82, 90, 95, 100, 105, 110, 115, 123, 136, 144, 152, 157, 162, 167, 172], 77) := by decide +kernel
theorem dX11_led_84 : decode cX11_led 84 = .ok (.aload_n 3, 1) := by decide +kernel
theorem dX11_led_85 : decode cX11_led 85 = .ok (.getfield 240, 3) := by decide +kernel
theorem dX11_led_88 : decode cX11_led 88 = .ok (.ireturn, 1) := by decide +kernel
theorem dX11_led_89 : decode cX11_led 89 = .ok (.aload_n 3, 1) := by decide +kernel
theorem dX11_led_90 : decode cX11_led 90 = .ok (.getfield 262, 3) := by decide +kernel
theorem dX11_led_93 : decode cX11_led 93 = .ok (.getfield 131, 3) := by decide +kernel
theorem dX11_led_96 : decode cX11_led 96 = .ok (.ireturn, 1) := by decide +kernel
theorem dX11_led_97 : decode cX11_led 97 = .ok (.aload_n 3, 1) := by decide +kernel
theorem dX11_led_98 : decode cX11_led 98 = .ok (.getfield 266, 3) := by decide +kernel
theorem dX11_led_101 : decode cX11_led 101 = .ok (.ireturn, 1) := by decide +kernel
theorem dX11_led_102 : decode cX11_led 102 = .ok (.aload_n 3, 1) := by decide +kernel
theorem dX11_led_103 : decode cX11_led 103 = .ok (.getfield 269, 3) := by decide +kernel
theorem dX11_led_106 : decode cX11_led 106 = .ok (.ireturn, 1) := by decide +kernel
theorem dX11_led_107 : decode cX11_led 107 = .ok (.aload_n 3, 1) := by decide +kernel
theorem dX11_led_108 : decode cX11_led 108 = .ok (.getfield 272, 3) := by decide +kernel
theorem dX11_led_111 : decode cX11_led 111 = .ok (.ireturn, 1) := by decide +kernel
theorem dX11_led_112 : decode cX11_led 112 = .ok (.aload_n 3, 1) := by decide +kernel
theorem dX11_led_113 : decode cX11_led 113 = .ok (.getfield 229, 3) := by decide +kernel
theorem dX11_led_116 : decode cX11_led 116 = .ok (.ireturn, 1) := by decide +kernel
theorem dX11_led_117 : decode cX11_led 117 = .ok (.aload_n 3, 1) := by decide +kernel
theorem dX11_led_118 : decode cX11_led 118 = .ok (.invokevirtual 246, 3) := by decide +kernel
theorem dX11_led_121 : decode cX11_led 121 = .ok (.ireturn, 1) := by decide +kernel
theorem dX11_led_122 : decode cX11_led 122 = .ok (.aload_n 3, 1) := by decide +kernel
theorem dX11_led_123 : decode cX11_led 123 = .ok (.getfield 275, 3) := by decide +kernel
theorem dX11_led_126 : decode cX11_led 126 = .ok (.getfield 189, 3) := by decide +kernel
theorem dX11_led_129 : decode cX11_led 129 = .ok (.ireturn, 1) := by decide +kernel
theorem dX11_led_130 : decode cX11_led 130 = .ok (.aload_n 3, 1) := by decide +kernel
theorem dX11_led_131 : decode cX11_led 131 = .ok (.getfield 279, 3) := by decide +kernel
theorem dX11_led_134 : decode cX11_led 134 = .ok (.ifCond .eq 7, 3) := by decide +kernel
theorem dX11_led_137 : decode cX11_led 137 = .ok (.iconst 1, 1) := by decide +kernel
theorem dX11_led_138 : decode cX11_led 138 = .ok (.goto 4, 3) := by decide +kernel
theorem dX11_led_141 : decode cX11_led 141 = .ok (.iconst 0, 1) := by decide +kernel
theorem dX11_led_142 : decode cX11_led 142 = .ok (.ireturn, 1) := by decide +kernel
theorem dX11_led_143 : decode cX11_led 143 = .ok (.aload_n 3, 1) := by decide +kernel
theorem dX11_led_144 : decode cX11_led 144 = .ok (.getfield 275, 3) := by decide +kernel
theorem dX11_led_147 : decode cX11_led 147 = .ok (.getfield 195, 3) := by decide +kernel
theorem dX11_led_150 : decode cX11_led 150 = .ok (.ireturn, 1) := by decide +kernel
theorem dX11_led_151 : decode cX11_led 151 = .ok (.aload_n 3, 1) := by decide +kernel
theorem dX11_led_152 : decode cX11_led 152 = .ok (.getfield 275, 3) := by decide +kernel
theorem dX11_led_155 : decode cX11_led 155 = .ok (.invokevirtual 192, 3) := by decide +kernel
theorem dX11_led_158 : decode cX11_led 158 = .ok (.ireturn, 1) := by decide +kernel
theorem dX11_led_159 : decode cX11_led 159 = .ok (.aload_n 3, 1) := by decide +kernel
theorem dX11_led_160 : decode cX11_led 160 = .ok (.getfield 253, 3) := by decide +kernel
theorem dX11_led_163 : decode cX11_led 163 = .ok (.ireturn, 1) := by decide +kernel
theorem dX11_led_164 : decode cX11_led 164 = .ok (.aload_n 3, 1) := by decide +kernel
theorem dX11_led_165 : decode cX11_led 165 = .ok (.getfield 282, 3) := by decide +kernel
theorem dX11_led_168 : decode cX11_led 168 = .ok (.ireturn, 1) := by decide +kernel
theorem dX11_led_169 : decode cX11_led 169 = .ok (.aload_n 3, 1) := by decide +kernel
theorem dX11_led_170 : decode cX11_led 170 = .ok (.getfield 285, 3) := by decide +kernel
theorem dX11_led_173 : decode cX11_led 173 = .ok (.ireturn, 1) := by decide +kernel
theorem dX11_led_174 : decode cX11_led 174 = .ok (.aload_n 3, 1) := by decide +kernel
theorem dX11_led_175 : decode cX11_led 175 = .ok (.getfield 259, 3) := by decide +kernel
theorem dX11_led_178 : decode cX11_led 178 = .ok (.ireturn, 1) := by decide +kernel
theorem dX11_led_179 : decode cX11_led 179 = .ok (.aload_n 3, 1) := by decide +kernel
theorem dX11_led_180 : decode cX11_led 180 = .ok (.getfield 288, 3) := by decide +kernel
theorem dX11_led_183 : decode cX11_led 183 = .ok (.ireturn, 1) := by decide +kernel
theorem dX11_led_184 : decode cX11_led 184 = .ok (.new 205, 3) := by decide +kernel
theorem dX11_led_187 : decode cX11_led 187 = .ok (.dup, 1) := by decide +kernel
theorem dX11_led_188 : decode cX11_led 188 = .ok (.invokespecial 207, 3) := by decide +kernel
theorem dX11_led_191 : decode cX11_led 191 = .ok (.athrow, 1) := by decide +kernel
theorem dX11_hands_0 : decode cX11_hands 0 = .ok (.iload_n 1, 1) := by decide +kernel
theorem dX11_hands_1 : decode cX11_hands 1 = .ok (.invokestatic 291, 3) := by decide +kernel
theorem dX11_hands_4 : decode cX11_hands 4 = .ok (.iload_n 2, 1) := by decide +kernel
theorem dX11_hands_5 : decode cX11_hands 5 = .ok (.ifCond .lt 13, 3) := by decide +kernel
theorem dX11_hands_8 : decode cX11_hands 8 = .ok (.iload_n 2, 1) := by decide +kernel
theorem dX11_hands_9 : decode cX11_hands 9 = .ok (.bipush 30, 2) := by decide +kernel
theorem dX11_hands_11 : decode cX11_hands 11 = .ok (.if_icmp .gt 7, 3) := by decide +kernel
theorem dX11_hands_14 : decode cX11_hands 14 = .ok (.iconst 1, 1) := by decide +kernel
theorem dX11_hands_15 : decode cX11_hands 15 = .ok (.goto 4, 3) := by decide +kernel
theorem dX11_hands_18 : decode cX11_hands 18 = .ok (.iconst 0, 1) := by decide +kernel
theorem dX11_hands_19 : decode cX11_hands 19 = .ok (.invokestatic 86, 3) := by decide +kernel
theorem dX11_hands_22 : decode cX11_hands 22 = .ok (.aload_n 0, 1) := by decide +kernel
theorem dX11_hands_23 : decode cX11_hands 23 = .ok (.getfield 46, 3) := by decide +kernel
theorem dX11_hands_26 : decode cX11_hands 26 = .ok (.iload_n 1, 1) := by decide +kernel
theorem dX11_hands_27 : decode cX11_hands 27 = .ok (.iload_n 2, 1) := by decide +kernel
theorem dX11_hands_28 : decode cX11_hands 28 = .ok (.invokevirtual 294, 3) := by decide +kernel
theorem dX11_hands_31 : decode cX11_hands 31 = .ok (.return_, 1) := by decide +kernel
theorem dX11_lend_0 : decode cX11_lend 0 = .ok (.iload_n 1, 1) := by decide +kernel
theorem dX11_lend_1 : decode cX11_lend 1 = .ok (.invokestatic 291, 3) := by decide +kernel
theorem dX11_lend_4 : decode cX11_lend 4 = .ok (.iload_n 2, 1) := by decide +kernel
theorem dX11_lend_5 : decode cX11_lend 5 = .ok (.iconst 1, 1) := by decide +kernel
theorem dX11_lend_6 : decode cX11_lend 6 = .ok (.if_icmp .lt 13, 3) := by decide +kernel
theorem dX11_lend_9 : decode cX11_lend 9 = .ok (.iload_n 2, 1) := by decide +kernel
theorem dX11_lend_10 : decode cX11_lend 10 = .ok (.bipush 30, 2) := by decide +kernel
theorem dX11_lend_12 : decode cX11_lend 12 = .ok (.if_icmp .gt 7, 3) := by decide +kernel
theorem dX11_lend_15 : decode cX11_lend 15 = .ok (.iconst 1, 1) := by decide +kernel
theorem dX11_lend_16 : decode cX11_lend 16 = .ok (.goto 4, 3) := by decide +kernel
theorem dX11_lend_19 : decode cX11_lend 19 = .ok (.iconst 0, 1) := by decide +kernel
theorem dX11_lend_20 : decode cX11_lend 20 = .ok (.invokestatic 86, 3) := by decide +kernel
theorem dX11_lend_23 : decode cX11_lend 23 = .ok (.iload_n 3, 1) := by decide +kernel
theorem dX11_lend_24 : decode cX11_lend 24 = .ok (.aload_n 0, 1) := by decide +kernel
theorem dX11_lend_25 : decode cX11_lend 25 = .ok (.getfield 62, 3) := by decide +kernel
theorem dX11_lend_28 : decode cX11_lend 28 = .ok (.getfield 83, 3) := by decide +kernel
theorem dX11_lend_31 : decode cX11_lend 31 = .ok (.if_icmp .lt 21, 3) := by decide +kernel
theorem dX11_lend_34 : decode cX11_lend 34 = .ok (.iload 4, 2) := by decide +kernel
theorem dX11_lend_36 : decode cX11_lend 36 = .ok (.iload_n 3, 1) := by decide +kernel
theorem dX11_lend_37 : decode cX11_lend 37 = .ok (.if_icmp .lt 15, 3) := by decide +kernel
theorem dX11_lend_40 : decode cX11_lend 40 = .ok (.iload 4, 2) := by decide +kernel
theorem dX11_lend_42 : decode cX11_lend 42 = .ok (.sipush 1000, 3) := by decide +kernel
theorem dX11_lend_45 : decode cX11_lend 45 = .ok (.if_icmp .gt 7, 3) := by decide +kernel
theorem dX11_lend_48 : decode cX11_lend 48 = .ok (.iconst 1, 1) := by decide +kernel
theorem dX11_lend_49 : decode cX11_lend 49 = .ok (.goto 4, 3) := by decide +kernel
theorem dX11_lend_52 : decode cX11_lend 52 = .ok (.iconst 0, 1) := by decide +kernel
theorem dX11_lend_53 : decode cX11_lend 53 = .ok (.invokestatic 86, 3) := by decide +kernel
theorem dX11_lend_56 : decode cX11_lend 56 = .ok (.iload 5, 2) := by decide +kernel
theorem dX11_lend_58 : decode cX11_lend 58 = .ok (.ifCond .lt 14, 3) := by decide +kernel
theorem dX11_lend_61 : decode cX11_lend 61 = .ok (.iload 5, 2) := by decide +kernel
theorem dX11_lend_63 : decode cX11_lend 63 = .ok (.bipush 30, 2) := by decide +kernel
theorem dX11_lend_65 : decode cX11_lend 65 = .ok (.if_icmp .gt 7, 3) := by decide +kernel
theorem dX11_lend_68 : decode cX11_lend 68 = .ok (.iconst 1, 1) := by decide +kernel
theorem dX11_lend_69 : decode cX11_lend 69 = .ok (.goto 4, 3) := by decide +kernel
theorem dX11_lend_72 : decode cX11_lend 72 = .ok (.iconst 0, 1) := by decide +kernel
theorem dX11_lend_73 : decode cX11_lend 73 = .ok (.invokestatic 86, 3) := by decide +kernel
theorem dX11_lend_76 : decode cX11_lend 76 = .ok (.aload_n 0, 1) := by decide +kernel
theorem dX11_lend_77 : decode cX11_lend 77 = .ok (.getfield 46, 3) := by decide +kernel
theorem dX11_lend_80 : decode cX11_lend 80 = .ok (.getfield 298, 3) := by decide +kernel
theorem dX11_lend_83 : decode cX11_lend 83 = .ok (.invokevirtual 97, 3) := by decide +kernel
theorem dX11_lend_86 : decode cX11_lend 86 = .ok (.bipush 20, 2) := by decide +kernel
theorem dX11_lend_88 : decode cX11_lend 88 = .ok (.if_icmp .lt 5, 3) := by decide +kernel
theorem dX11_lend_91 : decode cX11_lend 91 = .ok (.iconst (-1), 1) := by decide +kernel
theorem dX11_lend_92 : decode cX11_lend 92 = .ok (.ireturn, 1) := by decide +kernel
theorem dX11_lend_93 : decode cX11_lend 93 = .ok (.aload_n 0, 1) := by decide +kernel
theorem dX11_lend_94 : decode cX11_lend 94 = .ok (.getfield 46, 3) := by decide +kernel
theorem dX11_lend_97 : decode cX11_lend 97 = .ok (.getfield 298, 3) := by decide +kernel
theorem dX11_lend_100 : decode cX11_lend 100 = .ok (.new 301, 3) := by decide +kernel
theorem dX11_lend_103 : decode cX11_lend 103 = .ok (.dup, 1) := by decide +kernel
theorem dX11_lend_104 : decode cX11_lend 104 = .ok (.iload_n 1, 1) := by decide +kernel
theorem dX11_lend_105 : decode cX11_lend 105 = .ok (.iload_n 2, 1) := by decide +kernel
theorem dX11_lend_106 : decode cX11_lend 106 = .ok (.iload_n 3, 1) := by decide +kernel
theorem dX11_lend_107 : decode cX11_lend 107 = .ok (.iload 4, 2) := by decide +kernel
theorem dX11_lend_109 : decode cX11_lend 109 = .ok (.iload 5, 2) := by decide +kernel
theorem dX11_lend_111 : decode cX11_lend 111 = .ok (.invokespecial 303, 3) := by decide +kernel
theorem dX11_lend_114 : decode cX11_lend 114 = .ok (.invokevirtual 104, 3) := by decide +kernel
theorem dX11_lend_117 : decode cX11_lend 117 = .ok (.pop, 1) := by decide +kernel
theorem dX11_lend_118 : decode cX11_lend 118 = .ok (.aload_n 0, 1) := by decide +kernel
theorem dX11_lend_119 : decode cX11_lend 119 = .ok (.getfield 46, 3) := by decide +kernel
theorem dX11_lend_122 : decode cX11_lend 122 = .ok (.getfield 298, 3) := by decide +kernel
theorem dX11_lend_125 : decode cX11_lend 125 = .ok (.invokevirtual 97, 3) := by decide +kernel
theorem dX11_lend_128 : decode cX11_lend 128 = .ok (.ireturn, 1) := by decide +kernel
theorem dX11_units_0 : decode cX11_units 0 = .ok (.iload_n 1, 1) := by decide +kernel
theorem dX11_units_1 : decode cX11_units 1 = .ok (.invokestatic 291, 3) := by decide +kernel
theorem dX11_units_4 : decode cX11_units 4 = .ok (.aload_n 0, 1) := by decide +kernel
theorem dX11_units_5 : decode cX11_units 5 = .ok (.getfield 46, 3) := by decide +kernel
theorem dX11_units_8 : decode cX11_units 8 = .ok (.iload_n 1, 1) := by decide +kernel
theorem dX11_units_9 : decode cX11_units 9 = .ok (.iload_n 2, 1) := by decide +kernel
theorem dX11_units_10 : decode cX11_units 10 = .ok (.invokevirtual 306, 3) := by decide +kernel
theorem dX11_units_13 : decode cX11_units 13 = .ok (.ireturn, 1) := by decide +kernel
theorem dX11_rules_0 : decode cX11_rules 0 = .ok (.iload_n 1, 1) := by decide +kernel
theorem dX11_rules_1 : decode cX11_rules 1 = .ok (.iconst 1, 1) := by decide +kernel
theorem dX11_rules_2 : decode cX11_rules 2 = .ok (.if_icmp .lt 14, 3) := by decide +kernel
theorem dX11_rules_5 : decode cX11_rules 5 = .ok (.iload_n 1, 1) := by decide +kernel
theorem dX11_rules_6 : decode cX11_rules 6 = .ok (.sipush 200, 3) := by decide +kernel
theorem dX11_rules_9 : decode cX11_rules 9 = .ok (.if_icmp .gt 7, 3) := by decide +kernel
theorem dX11_rules_12 : decode cX11_rules 12 = .ok (.iconst 1, 1) := by decide +kernel
theorem dX11_rules_13 : decode cX11_rules 13 = .ok (.goto 4, 3) := by decide +kernel
theorem dX11_rules_16 : decode cX11_rules 16 = .ok (.iconst 0, 1) := by decide +kernel
theorem dX11_rules_17 : decode cX11_rules 17 = .ok (.invokestatic 86, 3) := by decide +kernel
theorem dX11_rules_20 : decode cX11_rules 20 = .ok (.iload_n 2, 1) := by decide +kernel
theorem dX11_rules_21 : decode cX11_rules 21 = .ok (.ifCond .lt 14, 3) := by decide +kernel
theorem dX11_rules_24 : decode cX11_rules 24 = .ok (.iload_n 2, 1) := by decide +kernel
theorem dX11_rules_25 : decode cX11_rules 25 = .ok (.sipush 10000, 3) := by decide +kernel
theorem dX11_rules_28 : decode cX11_rules 28 = .ok (.if_icmp .gt 7, 3) := by decide +kernel
theorem dX11_rules_31 : decode cX11_rules 31 = .ok (.iconst 1, 1) := by decide +kernel
theorem dX11_rules_32 : decode cX11_rules 32 = .ok (.goto 4, 3) := by decide +kernel
theorem dX11_rules_35 : decode cX11_rules 35 = .ok (.iconst 0, 1) := by decide +kernel
theorem dX11_rules_36 : decode cX11_rules 36 = .ok (.invokestatic 86, 3) := by decide +kernel
theorem dX11_rules_39 : decode cX11_rules 39 = .ok (.iload_n 3, 1) := by decide +kernel
theorem dX11_rules_40 : decode cX11_rules 40 = .ok (.ifCond .lt 14, 3) := by decide +kernel
theorem dX11_rules_43 : decode cX11_rules 43 = .ok (.iload_n 3, 1) := by decide +kernel
theorem dX11_rules_44 : decode cX11_rules 44 = .ok (.sipush 1000, 3) := by decide +kernel
theorem dX11_rules_47 : decode cX11_rules 47 = .ok (.if_icmp .gt 7, 3) := by decide +kernel
theorem dX11_rules_50 : decode cX11_rules 50 = .ok (.iconst 1, 1) := by decide +kernel
theorem dX11_rules_51 : decode cX11_rules 51 = .ok (.goto 4, 3) := by decide +kernel
theorem dX11_rules_54 : decode cX11_rules 54 = .ok (.iconst 0, 1) := by decide +kernel
theorem dX11_rules_55 : decode cX11_rules 55 = .ok (.invokestatic 86, 3) := by decide +kernel
theorem dX11_rules_58 : decode cX11_rules 58 = .ok (.iload 4, 2) := by decide +kernel
theorem dX11_rules_60 : decode cX11_rules 60 = .ok (.ifCond .lt 26, 3) := by decide +kernel
theorem dX11_rules_63 : decode cX11_rules 63 = .ok (.iload 4, 2) := by decide +kernel
theorem dX11_rules_65 : decode cX11_rules 65 = .ok (.bipush 60, 2) := by decide +kernel
theorem dX11_rules_67 : decode cX11_rules 67 = .ok (.if_icmp .gt 19, 3) := by decide +kernel
theorem dX11_rules_70 : decode cX11_rules 70 = .ok (.iload 5, 2) := by decide +kernel
theorem dX11_rules_72 : decode cX11_rules 72 = .ok (.ifCond .lt 14, 3) := by decide +kernel
theorem dX11_rules_75 : decode cX11_rules 75 = .ok (.iload 5, 2) := by decide +kernel
theorem dX11_rules_77 : decode cX11_rules 77 = .ok (.bipush 60, 2) := by decide +kernel
theorem dX11_rules_79 : decode cX11_rules 79 = .ok (.if_icmp .gt 7, 3) := by decide +kernel
theorem dX11_rules_82 : decode cX11_rules 82 = .ok (.iconst 1, 1) := by decide +kernel
theorem dX11_rules_83 : decode cX11_rules 83 = .ok (.goto 4, 3) := by decide +kernel
theorem dX11_rules_86 : decode cX11_rules 86 = .ok (.iconst 0, 1) := by decide +kernel
theorem dX11_rules_87 : decode cX11_rules 87 = .ok (.invokestatic 86, 3) := by decide +kernel
theorem dX11_rules_90 : decode cX11_rules 90 = .ok (.aload_n 0, 1) := by decide +kernel
theorem dX11_rules_91 : decode cX11_rules 91 = .ok (.getfield 53, 3) := by decide +kernel
theorem dX11_rules_94 : decode cX11_rules 94 = .ok (.iload_n 1, 1) := by decide +kernel
theorem dX11_rules_95 : decode cX11_rules 95 = .ok (.putfield 310, 3) := by decide +kernel
theorem dX11_rules_98 : decode cX11_rules 98 = .ok (.aload_n 0, 1) := by decide +kernel
theorem dX11_rules_99 : decode cX11_rules 99 = .ok (.getfield 53, 3) := by decide +kernel
theorem dX11_rules_102 : decode cX11_rules 102 = .ok (.iload_n 2, 1) := by decide +kernel
theorem dX11_rules_103 : decode cX11_rules 103 = .ok (.putfield 313, 3) := by decide +kernel
theorem dX11_rules_106 : decode cX11_rules 106 = .ok (.aload_n 0, 1) := by decide +kernel
theorem dX11_rules_107 : decode cX11_rules 107 = .ok (.getfield 53, 3) := by decide +kernel
theorem dX11_rules_110 : decode cX11_rules 110 = .ok (.iload_n 3, 1) := by decide +kernel
theorem dX11_rules_111 : decode cX11_rules 111 = .ok (.putfield 316, 3) := by decide +kernel
theorem dX11_rules_114 : decode cX11_rules 114 = .ok (.aload_n 0, 1) := by decide +kernel
theorem dX11_rules_115 : decode cX11_rules 115 = .ok (.getfield 53, 3) := by decide +kernel
theorem dX11_rules_118 : decode cX11_rules 118 = .ok (.iload 4, 2) := by decide +kernel
theorem dX11_rules_120 : decode cX11_rules 120 = .ok (.putfield 319, 3) := by decide +kernel
theorem dX11_rules_123 : decode cX11_rules 123 = .ok (.aload_n 0, 1) := by decide +kernel
theorem dX11_rules_124 : decode cX11_rules 124 = .ok (.getfield 53, 3) := by decide +kernel
theorem dX11_rules_127 : decode cX11_rules 127 = .ok (.iload 5, 2) := by decide +kernel
theorem dX11_rules_129 : decode cX11_rules 129 = .ok (.putfield 322, 3) := by decide +kernel
theorem dX11_rules_132 : decode cX11_rules 132 = .ok (.return_, 1) := by decide +kernel
theorem dX11_order_0 : decode cX11_order 0 = .ok (.iload_n 1, 1) := by decide +kernel
theorem dX11_order_1 : decode cX11_order 1 = .ok (.invokestatic 324, 3) := by decide +kernel
theorem dX11_order_4 : decode cX11_order 4 = .ok (.invokestatic 86, 3) := by decide +kernel
theorem dX11_order_7 : decode cX11_order 7 = .ok (.aload_n 0, 1) := by decide +kernel
theorem dX11_order_8 : decode cX11_order 8 = .ok (.getfield 62, 3) := by decide +kernel
theorem dX11_order_11 : decode cX11_order 11 = .ok (.iload_n 1, 1) := by decide +kernel
theorem dX11_order_12 : decode cX11_order 12 = .ok (.putfield 327, 3) := by decide +kernel
theorem dX11_order_15 : decode cX11_order 15 = .ok (.return_, 1) := by decide +kernel
theorem dX11_isOrder_0 : decode cX11_isOrder 0 = .ok (.iload_n 0, 1) := by decide +kernel
theorem dX11_isOrder_1 : decode cX11_isOrder 1 = .ok (.ifCond .lt 12, 3) := by decide +kernel
theorem dX11_isOrder_4 : decode cX11_isOrder 4 = .ok (.iload_n 0, 1) := by decide +kernel
theorem dX11_isOrder_5 : decode cX11_isOrder 5 = .ok (.iconst 3, 1) := by decide +kernel
theorem dX11_isOrder_6 : decode cX11_isOrder 6 = .ok (.if_icmp .ge 7, 3) := by decide +kernel
theorem dX11_isOrder_9 : decode cX11_isOrder 9 = .ok (.iconst 1, 1) := by decide +kernel
theorem dX11_isOrder_10 : decode cX11_isOrder 10 = .ok (.goto 4, 3) := by decide +kernel
theorem dX11_isOrder_13 : decode cX11_isOrder 13 = .ok (.iconst 0, 1) := by decide +kernel
theorem dX11_isOrder_14 : decode cX11_isOrder 14 = .ok (.ireturn, 1) := by decide +kernel
theorem dX11_blanks_0 : decode cX11_blanks 0 = .ok (.iload_n 1, 1) := by decide +kernel
theorem dX11_blanks_1 : decode cX11_blanks 1 = .ok (.ifCond .lt 29, 3) := by decide +kernel
theorem dX11_blanks_4 : decode cX11_blanks 4 = .ok (.iload_n 1, 1) := by decide +kernel
theorem dX11_blanks_5 : decode cX11_blanks 5 = .ok (.sipush 1000, 3) := by decide +kernel
theorem dX11_blanks_8 : decode cX11_blanks 8 = .ok (.if_icmp .gt 22, 3) := by decide +kernel
theorem dX11_blanks_11 : decode cX11_blanks 11 = .ok (.aload_n 0, 1) := by decide +kernel
theorem dX11_blanks_12 : decode cX11_blanks 12 = .ok (.getfield 62, 3) := by decide +kernel
theorem dX11_blanks_15 : decode cX11_blanks 15 = .ok (.getfield 330, 3) := by decide +kernel
theorem dX11_blanks_18 : decode cX11_blanks 18 = .ok (.iload_n 1, 1) := by decide +kernel
theorem dX11_blanks_19 : decode cX11_blanks 19 = .ok (.iadd, 1) := by decide +kernel
theorem dX11_blanks_20 : decode cX11_blanks 20 = .ok (.sipush 10000, 3) := by decide +kernel
theorem dX11_blanks_23 : decode cX11_blanks 23 = .ok (.if_icmp .gt 7, 3) := by decide +kernel
theorem dX11_blanks_26 : decode cX11_blanks 26 = .ok (.iconst 1, 1) := by decide +kernel
theorem dX11_blanks_27 : decode cX11_blanks 27 = .ok (.goto 4, 3) := by decide +kernel
theorem dX11_blanks_30 : decode cX11_blanks 30 = .ok (.iconst 0, 1) := by decide +kernel
theorem dX11_blanks_31 : decode cX11_blanks 31 = .ok (.invokestatic 86, 3) := by decide +kernel
theorem dX11_blanks_34 : decode cX11_blanks 34 = .ok (.aload_n 0, 1) := by decide +kernel
theorem dX11_blanks_35 : decode cX11_blanks 35 = .ok (.getfield 62, 3) := by decide +kernel
theorem dX11_blanks_38 : decode cX11_blanks 38 = .ok (.dup, 1) := by decide +kernel
theorem dX11_blanks_39 : decode cX11_blanks 39 = .ok (.getfield 330, 3) := by decide +kernel
theorem dX11_blanks_42 : decode cX11_blanks 42 = .ok (.iload_n 1, 1) := by decide +kernel
theorem dX11_blanks_43 : decode cX11_blanks 43 = .ok (.iadd, 1) := by decide +kernel
theorem dX11_blanks_44 : decode cX11_blanks 44 = .ok (.putfield 330, 3) := by decide +kernel
theorem dX11_blanks_47 : decode cX11_blanks 47 = .ok (.aload_n 0, 1) := by decide +kernel
theorem dX11_blanks_48 : decode cX11_blanks 48 = .ok (.getfield 62, 3) := by decide +kernel
theorem dX11_blanks_51 : decode cX11_blanks 51 = .ok (.getfield 330, 3) := by decide +kernel
theorem dX11_blanks_54 : decode cX11_blanks 54 = .ok (.ireturn, 1) := by decide +kernel
theorem dX11_broken_0 : decode cX11_broken 0 = .ok (.iload_n 1, 1) := by decide +kernel
theorem dX11_broken_1 : decode cX11_broken 1 = .ok (.iload_n 2, 1) := by decide +kernel
theorem dX11_broken_2 : decode cX11_broken 2 = .ok (.if_icmp .gt 7, 3) := by decide +kernel
theorem dX11_broken_5 : decode cX11_broken 5 = .ok (.iconst 1, 1) := by decide +kernel
theorem dX11_broken_6 : decode cX11_broken 6 = .ok (.goto 4, 3) := by decide +kernel
theorem dX11_broken_9 : decode cX11_broken 9 = .ok (.iconst 0, 1) := by decide +kernel
theorem dX11_broken_10 : decode cX11_broken 10 = .ok (.invokestatic 86, 3) := by decide +kernel
theorem dX11_broken_13 : decode cX11_broken 13 = .ok (.aload_n 0, 1) := by decide +kernel
theorem dX11_broken_14 : decode cX11_broken 14 = .ok (.getfield 53, 3) := by decide +kernel
theorem dX11_broken_17 : decode cX11_broken 17 = .ok (.iload_n 1, 1) := by decide +kernel
theorem dX11_broken_18 : decode cX11_broken 18 = .ok (.putfield 333, 3) := by decide +kernel
theorem dX11_broken_21 : decode cX11_broken 21 = .ok (.aload_n 0, 1) := by decide +kernel
theorem dX11_broken_22 : decode cX11_broken 22 = .ok (.getfield 53, 3) := by decide +kernel
theorem dX11_broken_25 : decode cX11_broken 25 = .ok (.iload_n 2, 1) := by decide +kernel
theorem dX11_broken_26 : decode cX11_broken 26 = .ok (.putfield 336, 3) := by decide +kernel
theorem dX11_broken_29 : decode cX11_broken 29 = .ok (.return_, 1) := by decide +kernel
theorem dX11_days_0 : decode cX11_days 0 = .ok (.iload_n 1, 1) := by decide +kernel
theorem dX11_days_1 : decode cX11_days 1 = .ok (.ifCond .lt 13, 3) := by decide +kernel
theorem dX11_days_4 : decode cX11_days 4 = .ok (.iload_n 1, 1) := by decide +kernel
theorem dX11_days_5 : decode cX11_days 5 = .ok (.bipush 60, 2) := by decide +kernel
theorem dX11_days_7 : decode cX11_days 7 = .ok (.if_icmp .gt 7, 3) := by decide +kernel
theorem dX11_days_10 : decode cX11_days 10 = .ok (.iconst 1, 1) := by decide +kernel
theorem dX11_days_11 : decode cX11_days 11 = .ok (.goto 4, 3) := by decide +kernel
theorem dX11_days_14 : decode cX11_days 14 = .ok (.iconst 0, 1) := by decide +kernel
theorem dX11_days_15 : decode cX11_days 15 = .ok (.invokestatic 86, 3) := by decide +kernel
theorem dX11_days_18 : decode cX11_days 18 = .ok (.iconst 0, 1) := by decide +kernel
theorem dX11_days_19 : decode cX11_days 19 = .ok (.istore_n 2, 1) := by decide +kernel
theorem dX11_days_20 : decode cX11_days 20 = .ok (.iload_n 2, 1) := by decide +kernel
theorem dX11_days_21 : decode cX11_days 21 = .ok (.iload_n 1, 1) := by decide +kernel
theorem dX11_days_22 : decode cX11_days 22 = .ok (.if_icmp .ge 29, 3) := by decide +kernel
theorem dX11_days_25 : decode cX11_days 25 = .ok (.aload_n 0, 1) := by decide +kernel
theorem dX11_days_26 : decode cX11_days 26 = .ok (.getfield 62, 3) := by decide +kernel
theorem dX11_days_29 : decode cX11_days 29 = .ok (.getfield 83, 3) := by decide +kernel
theorem dX11_days_32 : decode cX11_days 32 = .ok (.sipush 1000, 3) := by decide +kernel
theorem dX11_days_35 : decode cX11_days 35 = .ok (.if_icmp .ge 16, 3) := by decide +kernel
theorem dX11_days_38 : decode cX11_days 38 = .ok (.aload_n 0, 1) := by decide +kernel
theorem dX11_days_39 : decode cX11_days 39 = .ok (.getfield 62, 3) := by decide +kernel
theorem dX11_days_42 : decode cX11_days 42 = .ok (.invokevirtual 339, 3) := by decide +kernel
theorem dX11_days_45 : decode cX11_days 45 = .ok (.iinc 2 1, 3) := by decide +kernel
theorem dX11_days_48 : decode cX11_days 48 = .ok (.goto (-28), 3) := by decide +kernel
theorem dX11_days_51 : decode cX11_days 51 = .ok (.aload_n 0, 1) := by decide +kernel
theorem dX11_days_52 : decode cX11_days 52 = .ok (.getfield 62, 3) := by decide +kernel
theorem dX11_days_55 : decode cX11_days 55 = .ok (.getfield 83, 3) := by decide +kernel
theorem dX11_days_58 : decode cX11_days 58 = .ok (.ireturn, 1) := by decide +kernel
theorem dX11_queue_0 : decode cX11_queue 0 = .ok (.iload_n 1, 1) := by decide +kernel
theorem dX11_queue_1 : decode cX11_queue 1 = .ok (.invokestatic 291, 3) := by decide +kernel
theorem dX11_queue_4 : decode cX11_queue 4 = .ok (.aload_n 0, 1) := by decide +kernel
theorem dX11_queue_5 : decode cX11_queue 5 = .ok (.getfield 62, 3) := by decide +kernel
theorem dX11_queue_8 : decode cX11_queue 8 = .ok (.getstatic 342, 3) := by decide +kernel
theorem dX11_queue_11 : decode cX11_queue 11 = .ok (.iload_n 1, 1) := by decide +kernel
theorem dX11_queue_12 : decode cX11_queue 12 = .ok (.iaload, 1) := by decide +kernel
theorem dX11_queue_13 : decode cX11_queue 13 = .ok (.invokevirtual 345, 3) := by decide +kernel
theorem dX11_queue_16 : decode cX11_queue 16 = .ok (.ireturn, 1) := by decide +kernel
theorem dX11_ahead_0 : decode cX11_ahead 0 = .ok (.aload_n 0, 1) := by decide +kernel
theorem dX11_ahead_1 : decode cX11_ahead 1 = .ok (.getfield 62, 3) := by decide +kernel
theorem dX11_ahead_4 : decode cX11_ahead 4 = .ok (.aload_n 0, 1) := by decide +kernel
theorem dX11_ahead_5 : decode cX11_ahead 5 = .ok (.iload_n 1, 1) := by decide +kernel
theorem dX11_ahead_6 : decode cX11_ahead 6 = .ok (.invokevirtual 236, 3) := by decide +kernel
theorem dX11_ahead_9 : decode cX11_ahead 9 = .ok (.invokevirtual 349, 3) := by decide +kernel
theorem dX11_ahead_12 : decode cX11_ahead 12 = .ok (.ireturn, 1) := by decide +kernel
theorem dX11_booklet_0 : decode cX11_booklet 0 = .ok (.aload_n 0, 1) := by decide +kernel
theorem dX11_booklet_1 : decode cX11_booklet 1 = .ok (.getfield 62, 3) := by decide +kernel
theorem dX11_booklet_4 : decode cX11_booklet 4 = .ok (.iload_n 1, 1) := by decide +kernel
theorem dX11_booklet_5 : decode cX11_booklet 5 = .ok (.invokevirtual 353, 3) := by decide +kernel
theorem dX11_booklet_8 : decode cX11_booklet 8 = .ok (.astore_n 3, 1) := by decide +kernel
theorem dX11_booklet_9 : decode cX11_booklet 9 = .ok (.aload_n 3, 1) := by decide +kernel
theorem dX11_booklet_10 : decode cX11_booklet 10 = .ok (.ifnonnull 11, 3) := by decide +kernel
theorem dX11_booklet_13 : decode cX11_booklet 13 = .ok (.new 357, 3) := by decide +kernel
theorem dX11_booklet_16 : decode cX11_booklet 16 = .ok (.dup, 1) := by decide +kernel
theorem dX11_booklet_17 : decode cX11_booklet 17 = .ok (.invokespecial 359, 3) := by decide +kernel
theorem dX11_booklet_20 : decode cX11_booklet 20 = .ok (.athrow, 1) := by decide +kernel
theorem dX11_booklet_21 : decode cX11_booklet 21 = .ok (.iload_n 2, 1) := by decide +kernel
theorem dX11_booklet_22 : decode cX11_booklet 22 = .ok (.tableswitch 50 0 3 #[30, 35, 40, 45], 30) := by decide +kernel
theorem dX11_booklet_52 : decode cX11_booklet 52 = .ok (.aload_n 3, 1) := by decide +kernel
theorem dX11_booklet_53 : decode cX11_booklet 53 = .ok (.getfield 360, 3) := by decide +kernel
theorem dX11_booklet_56 : decode cX11_booklet 56 = .ok (.ireturn, 1) := by decide +kernel
theorem dX11_booklet_57 : decode cX11_booklet 57 = .ok (.aload_n 3, 1) := by decide +kernel
theorem dX11_booklet_58 : decode cX11_booklet 58 = .ok (.getfield 364, 3) := by decide +kernel
theorem dX11_booklet_61 : decode cX11_booklet 61 = .ok (.ireturn, 1) := by decide +kernel
theorem dX11_booklet_62 : decode cX11_booklet 62 = .ok (.aload_n 3, 1) := by decide +kernel
theorem dX11_booklet_63 : decode cX11_booklet 63 = .ok (.getfield 367, 3) := by decide +kernel
theorem dX11_booklet_66 : decode cX11_booklet 66 = .ok (.ireturn, 1) := by decide +kernel
theorem dX11_booklet_67 : decode cX11_booklet 67 = .ok (.aload_n 3, 1) := by decide +kernel
theorem dX11_booklet_68 : decode cX11_booklet 68 = .ok (.getfield 370, 3) := by decide +kernel
theorem dX11_booklet_71 : decode cX11_booklet 71 = .ok (.ireturn, 1) := by decide +kernel
theorem dX11_booklet_72 : decode cX11_booklet 72 = .ok (.new 205, 3) := by decide +kernel
theorem dX11_booklet_75 : decode cX11_booklet 75 = .ok (.dup, 1) := by decide +kernel
theorem dX11_booklet_76 : decode cX11_booklet 76 = .ok (.invokespecial 207, 3) := by decide +kernel
theorem dX11_booklet_79 : decode cX11_booklet 79 = .ok (.athrow, 1) := by decide +kernel
theorem dX11_valid_0 : decode cX11_valid 0 = .ok (.aload_n 0, 1) := by decide +kernel
theorem dX11_valid_1 : decode cX11_valid 1 = .ok (.getfield 62, 3) := by decide +kernel
theorem dX11_valid_4 : decode cX11_valid 4 = .ok (.aload_n 0, 1) := by decide +kernel
theorem dX11_valid_5 : decode cX11_valid 5 = .ok (.iload_n 1, 1) := by decide +kernel
theorem dX11_valid_6 : decode cX11_valid 6 = .ok (.invokevirtual 134, 3) := by decide +kernel
theorem dX11_valid_9 : decode cX11_valid 9 = .ok (.iload_n 2, 1) := by decide +kernel
theorem dX11_valid_10 : decode cX11_valid 10 = .ok (.invokevirtual 211, 3) := by decide +kernel
theorem dX11_valid_13 : decode cX11_valid 13 = .ok (.ireturn, 1) := by decide +kernel
theorem dX11_missed_0 : decode cX11_missed 0 = .ok (.iload_n 1, 1) := by decide +kernel
theorem dX11_missed_1 : decode cX11_missed 1 = .ok (.invokestatic 324, 3) := by decide +kernel
theorem dX11_missed_4 : decode cX11_missed 4 = .ok (.ifCond .eq 17, 3) := by decide +kernel
theorem dX11_missed_7 : decode cX11_missed 7 = .ok (.iload_n 2, 1) := by decide +kernel
theorem dX11_missed_8 : decode cX11_missed 8 = .ok (.ifCond .lt 13, 3) := by decide +kernel
theorem dX11_missed_11 : decode cX11_missed 11 = .ok (.iload_n 2, 1) := by decide +kernel
theorem dX11_missed_12 : decode cX11_missed 12 = .ok (.bipush 60, 2) := by decide +kernel
theorem dX11_missed_14 : decode cX11_missed 14 = .ok (.if_icmp .gt 7, 3) := by decide +kernel
theorem dX11_missed_17 : decode cX11_missed 17 = .ok (.iconst 1, 1) := by decide +kernel
theorem dX11_missed_18 : decode cX11_missed 18 = .ok (.goto 4, 3) := by decide +kernel
theorem dX11_missed_21 : decode cX11_missed 21 = .ok (.iconst 0, 1) := by decide +kernel
theorem dX11_missed_22 : decode cX11_missed 22 = .ok (.invokestatic 86, 3) := by decide +kernel
theorem dX11_missed_25 : decode cX11_missed 25 = .ok (.aload_n 0, 1) := by decide +kernel
theorem dX11_missed_26 : decode cX11_missed 26 = .ok (.getfield 66, 3) := by decide +kernel
theorem dX11_missed_29 : decode cX11_missed 29 = .ok (.aload_n 0, 1) := by decide +kernel
theorem dX11_missed_30 : decode cX11_missed 30 = .ok (.getfield 62, 3) := by decide +kernel
theorem dX11_missed_33 : decode cX11_missed 33 = .ok (.invokevirtual 373, 3) := by decide +kernel
theorem dX11_missed_36 : decode cX11_missed 36 = .ok (.aload_n 0, 1) := by decide +kernel
theorem dX11_missed_37 : decode cX11_missed 37 = .ok (.getfield 66, 3) := by decide +kernel
theorem dX11_missed_40 : decode cX11_missed 40 = .ok (.iload_n 1, 1) := by decide +kernel
theorem dX11_missed_41 : decode cX11_missed 41 = .ok (.putfield 327, 3) := by decide +kernel
theorem dX11_missed_44 : decode cX11_missed 44 = .ok (.iconst 0, 1) := by decide +kernel
theorem dX11_missed_45 : decode cX11_missed 45 = .ok (.istore_n 3, 1) := by decide +kernel
theorem dX11_missed_46 : decode cX11_missed 46 = .ok (.iload_n 3, 1) := by decide +kernel
theorem dX11_missed_47 : decode cX11_missed 47 = .ok (.iload_n 2, 1) := by decide +kernel
theorem dX11_missed_48 : decode cX11_missed 48 = .ok (.if_icmp .ge 16, 3) := by decide +kernel
theorem dX11_missed_51 : decode cX11_missed 51 = .ok (.aload_n 0, 1) := by decide +kernel
theorem dX11_missed_52 : decode cX11_missed 52 = .ok (.getfield 66, 3) := by decide +kernel
theorem dX11_missed_55 : decode cX11_missed 55 = .ok (.invokevirtual 339, 3) := by decide +kernel
theorem dX11_missed_58 : decode cX11_missed 58 = .ok (.iinc 3 1, 3) := by decide +kernel
theorem dX11_missed_61 : decode cX11_missed 61 = .ok (.goto (-15), 3) := by decide +kernel
theorem dX11_missed_64 : decode cX11_missed 64 = .ok (.iconst 0, 1) := by decide +kernel
theorem dX11_missed_65 : decode cX11_missed 65 = .ok (.istore_n 3, 1) := by decide +kernel
theorem dX11_missed_66 : decode cX11_missed 66 = .ok (.iconst 0, 1) := by decide +kernel
theorem dX11_missed_67 : decode cX11_missed 67 = .ok (.istore 4, 2) := by decide +kernel
theorem dX11_missed_69 : decode cX11_missed 69 = .ok (.iload 4, 2) := by decide +kernel
theorem dX11_missed_71 : decode cX11_missed 71 = .ok (.aload_n 0, 1) := by decide +kernel
theorem dX11_missed_72 : decode cX11_missed 72 = .ok (.getfield 62, 3) := by decide +kernel
theorem dX11_missed_75 : decode cX11_missed 75 = .ok (.getfield 223, 3) := by decide +kernel
theorem dX11_missed_78 : decode cX11_missed 78 = .ok (.invokevirtual 97, 3) := by decide +kernel
theorem dX11_missed_81 : decode cX11_missed 81 = .ok (.if_icmp .ge 104, 3) := by decide +kernel
theorem dX11_missed_84 : decode cX11_missed 84 = .ok (.iload 4, 2) := by decide +kernel
theorem dX11_missed_86 : decode cX11_missed 86 = .ok (.aload_n 0, 1) := by decide +kernel
theorem dX11_missed_87 : decode cX11_missed 87 = .ok (.getfield 66, 3) := by decide +kernel
theorem dX11_missed_90 : decode cX11_missed 90 = .ok (.getfield 223, 3) := by decide +kernel
theorem dX11_missed_93 : decode cX11_missed 93 = .ok (.invokevirtual 97, 3) := by decide +kernel
theorem dX11_missed_96 : decode cX11_missed 96 = .ok (.if_icmp .ge 89, 3) := by decide +kernel
theorem dX11_missed_99 : decode cX11_missed 99 = .ok (.aload_n 0, 1) := by decide +kernel
theorem dX11_missed_100 : decode cX11_missed 100 = .ok (.getfield 62, 3) := by decide +kernel
theorem dX11_missed_103 : decode cX11_missed 103 = .ok (.getfield 223, 3) := by decide +kernel
theorem dX11_missed_106 : decode cX11_missed 106 = .ok (.iload 4, 2) := by decide +kernel
theorem dX11_missed_108 : decode cX11_missed 108 = .ok (.invokevirtual 111, 3) := by decide +kernel
theorem dX11_missed_111 : decode cX11_missed 111 = .ok (.checkcast 218, 3) := by decide +kernel
theorem dX11_missed_114 : decode cX11_missed 114 = .ok (.astore 5, 2) := by decide +kernel
theorem dX11_missed_116 : decode cX11_missed 116 = .ok (.aload 5, 2) := by decide +kernel
theorem dX11_missed_118 : decode cX11_missed 118 = .ok (.getfield 240, 3) := by decide +kernel
theorem dX11_missed_121 : decode cX11_missed 121 = .ok (.bipush 6, 2) := by decide +kernel
theorem dX11_missed_123 : decode cX11_missed 123 = .ok (.if_icmp .gt 24, 3) := by decide +kernel
theorem dX11_missed_126 : decode cX11_missed 126 = .ok (.aload 5, 2) := by decide +kernel
theorem dX11_missed_128 : decode cX11_missed 128 = .ok (.getfield 272, 3) := by decide +kernel
theorem dX11_missed_131 : decode cX11_missed 131 = .ok (.aload_n 0, 1) := by decide +kernel
theorem dX11_missed_132 : decode cX11_missed 132 = .ok (.getfield 62, 3) := by decide +kernel
theorem dX11_missed_135 : decode cX11_missed 135 = .ok (.getfield 83, 3) := by decide +kernel
theorem dX11_missed_138 : decode cX11_missed 138 = .ok (.iload_n 2, 1) := by decide +kernel
theorem dX11_missed_139 : decode cX11_missed 139 = .ok (.iadd, 1) := by decide +kernel
theorem dX11_missed_140 : decode cX11_missed 140 = .ok (.if_icmp .gt 7, 3) := by decide +kernel
theorem dX11_missed_143 : decode cX11_missed 143 = .ok (.iconst 1, 1) := by decide +kernel
theorem dX11_missed_144 : decode cX11_missed 144 = .ok (.goto 4, 3) := by decide +kernel
theorem dX11_missed_147 : decode cX11_missed 147 = .ok (.iconst 0, 1) := by decide +kernel
theorem dX11_missed_148 : decode cX11_missed 148 = .ok (.istore 6, 2) := by decide +kernel
theorem dX11_missed_150 : decode cX11_missed 150 = .ok (.iload 6, 2) := by decide +kernel
theorem dX11_missed_152 : decode cX11_missed 152 = .ok (.ifCond .eq 27, 3) := by decide +kernel
theorem dX11_missed_155 : decode cX11_missed 155 = .ok (.aload_n 0, 1) := by decide +kernel
theorem dX11_missed_156 : decode cX11_missed 156 = .ok (.getfield 66, 3) := by decide +kernel
theorem dX11_missed_159 : decode cX11_missed 159 = .ok (.getfield 223, 3) := by decide +kernel
theorem dX11_missed_162 : decode cX11_missed 162 = .ok (.iload 4, 2) := by decide +kernel
theorem dX11_missed_164 : decode cX11_missed 164 = .ok (.invokevirtual 111, 3) := by decide +kernel
theorem dX11_missed_167 : decode cX11_missed 167 = .ok (.checkcast 218, 3) := by decide +kernel
theorem dX11_missed_170 : decode cX11_missed 170 = .ok (.invokevirtual 377, 3) := by decide +kernel
theorem dX11_missed_173 : decode cX11_missed 173 = .ok (.ifCond .ne 6, 3) := by decide +kernel
theorem dX11_missed_176 : decode cX11_missed 176 = .ok (.iinc 3 1, 3) := by decide +kernel
theorem dX11_missed_179 : decode cX11_missed 179 = .ok (.iinc 4 1, 3) := by decide +kernel
theorem dX11_missed_182 : decode cX11_missed 182 = .ok (.goto (-113), 3) := by decide +kernel
theorem dX11_missed_185 : decode cX11_missed 185 = .ok (.iload_n 3, 1) := by decide +kernel
theorem dX11_missed_186 : decode cX11_missed 186 = .ok (.ireturn, 1) := by decide +kernel
theorem dX11_waits_0 : decode cX11_waits 0 = .ok (.iload_n 1, 1) := by decide +kernel
theorem dX11_waits_1 : decode cX11_waits 1 = .ok (.invokestatic 170, 3) := by decide +kernel
theorem dX11_waits_4 : decode cX11_waits 4 = .ok (.invokestatic 86, 3) := by decide +kernel
theorem dX11_waits_7 : decode cX11_waits 7 = .ok (.aload_n 0, 1) := by decide +kernel
theorem dX11_waits_8 : decode cX11_waits 8 = .ok (.iload_n 1, 1) := by decide +kernel
theorem dX11_waits_9 : decode cX11_waits 9 = .ok (.invokevirtual 380, 3) := by decide +kernel
theorem dX11_waits_12 : decode cX11_waits 12 = .ok (.astore_n 3, 1) := by decide +kernel
theorem dX11_waits_13 : decode cX11_waits 13 = .ok (.aload_n 3, 1) := by decide +kernel
theorem dX11_waits_14 : decode cX11_waits 14 = .ok (.arraylength, 1) := by decide +kernel
theorem dX11_waits_15 : decode cX11_waits 15 = .ok (.bipush 10, 2) := by decide +kernel
theorem dX11_waits_17 : decode cX11_waits 17 = .ok (.idiv, 1) := by decide +kernel
theorem dX11_waits_18 : decode cX11_waits 18 = .ok (.istore 4, 2) := by decide +kernel
theorem dX11_waits_20 : decode cX11_waits 20 = .ok (.iload_n 2, 1) := by decide +kernel
theorem dX11_waits_21 : decode cX11_waits 21 = .ok (.ifCond .eq 13, 3) := by decide +kernel
theorem dX11_waits_24 : decode cX11_waits 24 = .ok (.aload_n 3, 1) := by decide +kernel
theorem dX11_waits_25 : decode cX11_waits 25 = .ok (.arraylength, 1) := by decide +kernel
theorem dX11_waits_26 : decode cX11_waits 26 = .ok (.iconst 1, 1) := by decide +kernel
theorem dX11_waits_27 : decode cX11_waits 27 = .ok (.isub, 1) := by decide +kernel
theorem dX11_waits_28 : decode cX11_waits 28 = .ok (.iload 4, 2) := by decide +kernel
theorem dX11_waits_30 : decode cX11_waits 30 = .ok (.isub, 1) := by decide +kernel
theorem dX11_waits_31 : decode cX11_waits 31 = .ok (.goto 5, 3) := by decide +kernel
theorem dX11_waits_34 : decode cX11_waits 34 = .ok (.iload 4, 2) := by decide +kernel
theorem dX11_waits_36 : decode cX11_waits 36 = .ok (.istore 5, 2) := by decide +kernel
theorem dX11_waits_38 : decode cX11_waits 38 = .ok (.iload 5, 2) := by decide +kernel
theorem dX11_waits_40 : decode cX11_waits 40 = .ok (.ifCond .lt 17, 3) := by decide +kernel
theorem dX11_waits_43 : decode cX11_waits 43 = .ok (.iload 5, 2) := by decide +kernel
theorem dX11_waits_45 : decode cX11_waits 45 = .ok (.aload_n 3, 1) := by decide +kernel
theorem dX11_waits_46 : decode cX11_waits 46 = .ok (.arraylength, 1) := by decide +kernel
theorem dX11_waits_47 : decode cX11_waits 47 = .ok (.if_icmp .ge 10, 3) := by decide +kernel
theorem dX11_waits_50 : decode cX11_waits 50 = .ok (.aload_n 3, 1) := by decide +kernel
theorem dX11_waits_51 : decode cX11_waits 51 = .ok (.iload 5, 2) := by decide +kernel
theorem dX11_waits_53 : decode cX11_waits 53 = .ok (.iaload, 1) := by decide +kernel
theorem dX11_waits_54 : decode cX11_waits 54 = .ok (.goto 4, 3) := by decide +kernel
theorem dX11_waits_57 : decode cX11_waits 57 = .ok (.iconst (-1), 1) := by decide +kernel
theorem dX11_waits_58 : decode cX11_waits 58 = .ok (.ireturn, 1) := by decide +kernel
theorem dX11_latestWaits_0 : decode cX11_latestWaits 0 = .ok (.aload_n 0, 1) := by decide +kernel
theorem dX11_latestWaits_1 : decode cX11_latestWaits 1 = .ok (.getfield 62, 3) := by decide +kernel
theorem dX11_latestWaits_4 : decode cX11_latestWaits 4 = .ok (.getfield 223, 3) := by decide +kernel
theorem dX11_latestWaits_7 : decode cX11_latestWaits 7 = .ok (.invokevirtual 97, 3) := by decide +kernel
theorem dX11_latestWaits_10 : decode cX11_latestWaits 10 = .ok (.newarray .int, 2) := by decide +kernel
theorem dX11_latestWaits_12 : decode cX11_latestWaits 12 = .ok (.astore_n 2, 1) := by decide +kernel
theorem dX11_latestWaits_13 : decode cX11_latestWaits 13 = .ok (.iconst 0, 1) := by decide +kernel
theorem dX11_latestWaits_14 : decode cX11_latestWaits 14 = .ok (.istore_n 3, 1) := by decide +kernel
theorem dX11_latestWaits_15 : decode cX11_latestWaits 15 = .ok (.iconst 0, 1) := by decide +kernel
theorem dX11_latestWaits_16 : decode cX11_latestWaits 16 = .ok (.istore 4, 2) := by decide +kernel
theorem dX11_latestWaits_18 : decode cX11_latestWaits 18 = .ok (.iload 4, 2) := by decide +kernel
theorem dX11_latestWaits_20 : decode cX11_latestWaits 20 = .ok (.aload_n 2, 1) := by decide +kernel
theorem dX11_latestWaits_21 : decode cX11_latestWaits 21 = .ok (.arraylength, 1) := by decide +kernel
theorem dX11_latestWaits_22 : decode cX11_latestWaits 22 = .ok (.if_icmp .ge 78, 3) := by decide +kernel
theorem dX11_latestWaits_25 : decode cX11_latestWaits 25 = .ok (.iload_n 3, 1) := by decide +kernel
theorem dX11_latestWaits_26 : decode cX11_latestWaits 26 = .ok (.aload_n 2, 1) := by decide +kernel
theorem dX11_latestWaits_27 : decode cX11_latestWaits 27 = .ok (.arraylength, 1) := by decide +kernel
theorem dX11_latestWaits_28 : decode cX11_latestWaits 28 = .ok (.if_icmp .ge 72, 3) := by decide +kernel
theorem dX11_latestWaits_31 : decode cX11_latestWaits 31 = .ok (.aload_n 0, 1) := by decide +kernel
theorem dX11_latestWaits_32 : decode cX11_latestWaits 32 = .ok (.getfield 62, 3) := by decide +kernel
theorem dX11_latestWaits_35 : decode cX11_latestWaits 35 = .ok (.getfield 223, 3) := by decide +kernel
theorem dX11_latestWaits_38 : decode cX11_latestWaits 38 = .ok (.iload 4, 2) := by decide +kernel
theorem dX11_latestWaits_40 : decode cX11_latestWaits 40 = .ok (.invokevirtual 111, 3) := by decide +kernel
theorem dX11_latestWaits_43 : decode cX11_latestWaits 43 = .ok (.checkcast 218, 3) := by decide +kernel
theorem dX11_latestWaits_46 : decode cX11_latestWaits 46 = .ok (.astore 5, 2) := by decide +kernel
theorem dX11_latestWaits_48 : decode cX11_latestWaits 48 = .ok (.aload 5, 2) := by decide +kernel
theorem dX11_latestWaits_50 : decode cX11_latestWaits 50 = .ok (.getfield 266, 3) := by decide +kernel
theorem dX11_latestWaits_53 : decode cX11_latestWaits 53 = .ok (.iload_n 1, 1) := by decide +kernel
theorem dX11_latestWaits_54 : decode cX11_latestWaits 54 = .ok (.if_icmp .ne 40, 3) := by decide +kernel
theorem dX11_latestWaits_57 : decode cX11_latestWaits 57 = .ok (.aload 5, 2) := by decide +kernel
theorem dX11_latestWaits_59 : decode cX11_latestWaits 59 = .ok (.getfield 240, 3) := by decide +kernel
theorem dX11_latestWaits_62 : decode cX11_latestWaits 62 = .ok (.bipush 7, 2) := by decide +kernel
theorem dX11_latestWaits_64 : decode cX11_latestWaits 64 = .ok (.if_icmp .ne 30, 3) := by decide +kernel
theorem dX11_latestWaits_67 : decode cX11_latestWaits 67 = .ok (.aload_n 2, 1) := by decide +kernel
theorem dX11_latestWaits_68 : decode cX11_latestWaits 68 = .ok (.iload_n 3, 1) := by decide +kernel
theorem dX11_latestWaits_69 : decode cX11_latestWaits 69 = .ok (.aload 5, 2) := by decide +kernel
theorem dX11_latestWaits_71 : decode cX11_latestWaits 71 = .ok (.getfield 285, 3) := by decide +kernel
theorem dX11_latestWaits_74 : decode cX11_latestWaits 74 = .ok (.bipush 120, 2) := by decide +kernel
theorem dX11_latestWaits_76 : decode cX11_latestWaits 76 = .ok (.imul, 1) := by decide +kernel
theorem dX11_latestWaits_77 : decode cX11_latestWaits 77 = .ok (.iload 4, 2) := by decide +kernel
theorem dX11_latestWaits_79 : decode cX11_latestWaits 79 = .ok (.iadd, 1) := by decide +kernel
theorem dX11_latestWaits_80 : decode cX11_latestWaits 80 = .ok (.sipush 1024, 3) := by decide +kernel
theorem dX11_latestWaits_83 : decode cX11_latestWaits 83 = .ok (.imul, 1) := by decide +kernel
theorem dX11_latestWaits_84 : decode cX11_latestWaits 84 = .ok (.aload 5, 2) := by decide +kernel
theorem dX11_latestWaits_86 : decode cX11_latestWaits 86 = .ok (.invokevirtual 384, 3) := by decide +kernel
theorem dX11_latestWaits_89 : decode cX11_latestWaits 89 = .ok (.iadd, 1) := by decide +kernel
theorem dX11_latestWaits_90 : decode cX11_latestWaits 90 = .ok (.iastore, 1) := by decide +kernel
theorem dX11_latestWaits_91 : decode cX11_latestWaits 91 = .ok (.iinc 3 1, 3) := by decide +kernel
theorem dX11_latestWaits_94 : decode cX11_latestWaits 94 = .ok (.iinc 4 1, 3) := by decide +kernel
theorem dX11_latestWaits_97 : decode cX11_latestWaits 97 = .ok (.goto (-79), 3) := by decide +kernel
theorem dX11_latestWaits_100 : decode cX11_latestWaits 100 = .ok (.aload_n 2, 1) := by decide +kernel
theorem dX11_latestWaits_101 : decode cX11_latestWaits 101 = .ok (.iload_n 3, 1) := by decide +kernel
theorem dX11_latestWaits_102 : decode cX11_latestWaits 102 = .ok (.invokestatic 387, 3) := by decide +kernel
theorem dX11_latestWaits_105 : decode cX11_latestWaits 105 = .ok (.aload_n 2, 1) := by decide +kernel
theorem dX11_latestWaits_106 : decode cX11_latestWaits 106 = .ok (.iconst 0, 1) := by decide +kernel
theorem dX11_latestWaits_107 : decode cX11_latestWaits 107 = .ok (.iload_n 3, 1) := by decide +kernel
theorem dX11_latestWaits_108 : decode cX11_latestWaits 108 = .ok (.bipush 20, 2) := by decide +kernel
theorem dX11_latestWaits_110 : decode cX11_latestWaits 110 = .ok (.isub, 1) := by decide +kernel
theorem dX11_latestWaits_111 : decode cX11_latestWaits 111 = .ok (.invokestatic 391, 3) := by decide +kernel
theorem dX11_latestWaits_114 : decode cX11_latestWaits 114 = .ok (.iload_n 3, 1) := by decide +kernel
theorem dX11_latestWaits_115 : decode cX11_latestWaits 115 = .ok (.invokestatic 396, 3) := by decide +kernel
theorem dX11_latestWaits_118 : decode cX11_latestWaits 118 = .ok (.astore 4, 2) := by decide +kernel
theorem dX11_latestWaits_120 : decode cX11_latestWaits 120 = .ok (.iconst 0, 1) := by decide +kernel
theorem dX11_latestWaits_121 : decode cX11_latestWaits 121 = .ok (.istore 5, 2) := by decide +kernel
theorem dX11_latestWaits_123 : decode cX11_latestWaits 123 = .ok (.iload 5, 2) := by decide +kernel
theorem dX11_latestWaits_125 : decode cX11_latestWaits 125 = .ok (.aload 4, 2) := by decide +kernel
theorem dX11_latestWaits_127 : decode cX11_latestWaits 127 = .ok (.arraylength, 1) := by decide +kernel
theorem dX11_latestWaits_128 : decode cX11_latestWaits 128 = .ok (.if_icmp .ge 20, 3) := by decide +kernel
theorem dX11_latestWaits_131 : decode cX11_latestWaits 131 = .ok (.aload 4, 2) := by decide +kernel
theorem dX11_latestWaits_133 : decode cX11_latestWaits 133 = .ok (.iload 5, 2) := by decide +kernel
theorem dX11_latestWaits_135 : decode cX11_latestWaits 135 = .ok (.dup2, 1) := by decide +kernel
theorem dX11_latestWaits_136 : decode cX11_latestWaits 136 = .ok (.iaload, 1) := by decide +kernel
theorem dX11_latestWaits_137 : decode cX11_latestWaits 137 = .ok (.sipush 1024, 3) := by decide +kernel
theorem dX11_latestWaits_140 : decode cX11_latestWaits 140 = .ok (.irem, 1) := by decide +kernel
theorem dX11_latestWaits_141 : decode cX11_latestWaits 141 = .ok (.iastore, 1) := by decide +kernel
theorem dX11_latestWaits_142 : decode cX11_latestWaits 142 = .ok (.iinc 5 1, 3) := by decide +kernel
theorem dX11_latestWaits_145 : decode cX11_latestWaits 145 = .ok (.goto (-22), 3) := by decide +kernel
theorem dX11_latestWaits_148 : decode cX11_latestWaits 148 = .ok (.aload 4, 2) := by decide +kernel
theorem dX11_latestWaits_150 : decode cX11_latestWaits 150 = .ok (.aload 4, 2) := by decide +kernel
theorem dX11_latestWaits_152 : decode cX11_latestWaits 152 = .ok (.arraylength, 1) := by decide +kernel
theorem dX11_latestWaits_153 : decode cX11_latestWaits 153 = .ok (.invokestatic 387, 3) := by decide +kernel
theorem dX11_latestWaits_156 : decode cX11_latestWaits 156 = .ok (.aload 4, 2) := by decide +kernel
theorem dX11_latestWaits_158 : decode cX11_latestWaits 158 = .ok (.areturn, 1) := by decide +kernel
theorem dX11_sort_0 : decode cX11_sort 0 = .ok (.iconst 1, 1) := by decide +kernel
theorem dX11_sort_1 : decode cX11_sort 1 = .ok (.istore_n 2, 1) := by decide +kernel
theorem dX11_sort_2 : decode cX11_sort 2 = .ok (.iload_n 2, 1) := by decide +kernel
theorem dX11_sort_3 : decode cX11_sort 3 = .ok (.iload_n 1, 1) := by decide +kernel
theorem dX11_sort_4 : decode cX11_sort 4 = .ok (.if_icmp .ge 58, 3) := by decide +kernel
theorem dX11_sort_7 : decode cX11_sort 7 = .ok (.iload_n 2, 1) := by decide +kernel
theorem dX11_sort_8 : decode cX11_sort 8 = .ok (.aload_n 0, 1) := by decide +kernel
theorem dX11_sort_9 : decode cX11_sort 9 = .ok (.arraylength, 1) := by decide +kernel
theorem dX11_sort_10 : decode cX11_sort 10 = .ok (.if_icmp .ge 52, 3) := by decide +kernel
theorem dX11_sort_13 : decode cX11_sort 13 = .ok (.aload_n 0, 1) := by decide +kernel
theorem dX11_sort_14 : decode cX11_sort 14 = .ok (.iload_n 2, 1) := by decide +kernel
theorem dX11_sort_15 : decode cX11_sort 15 = .ok (.iaload, 1) := by decide +kernel
theorem dX11_sort_16 : decode cX11_sort 16 = .ok (.istore_n 3, 1) := by decide +kernel
theorem dX11_sort_17 : decode cX11_sort 17 = .ok (.iload_n 2, 1) := by decide +kernel
theorem dX11_sort_18 : decode cX11_sort 18 = .ok (.istore 4, 2) := by decide +kernel
theorem dX11_sort_20 : decode cX11_sort 20 = .ok (.iload 4, 2) := by decide +kernel
theorem dX11_sort_22 : decode cX11_sort 22 = .ok (.ifCond .le 29, 3) := by decide +kernel
theorem dX11_sort_25 : decode cX11_sort 25 = .ok (.aload_n 0, 1) := by decide +kernel
theorem dX11_sort_26 : decode cX11_sort 26 = .ok (.iload 4, 2) := by decide +kernel
theorem dX11_sort_28 : decode cX11_sort 28 = .ok (.iconst 1, 1) := by decide +kernel
theorem dX11_sort_29 : decode cX11_sort 29 = .ok (.isub, 1) := by decide +kernel
theorem dX11_sort_30 : decode cX11_sort 30 = .ok (.iaload, 1) := by decide +kernel
theorem dX11_sort_31 : decode cX11_sort 31 = .ok (.iload_n 3, 1) := by decide +kernel
theorem dX11_sort_32 : decode cX11_sort 32 = .ok (.if_icmp .le 19, 3) := by decide +kernel
theorem dX11_sort_35 : decode cX11_sort 35 = .ok (.aload_n 0, 1) := by decide +kernel
theorem dX11_sort_36 : decode cX11_sort 36 = .ok (.iload 4, 2) := by decide +kernel
theorem dX11_sort_38 : decode cX11_sort 38 = .ok (.aload_n 0, 1) := by decide +kernel
theorem dX11_sort_39 : decode cX11_sort 39 = .ok (.iload 4, 2) := by decide +kernel
theorem dX11_sort_41 : decode cX11_sort 41 = .ok (.iconst 1, 1) := by decide +kernel
theorem dX11_sort_42 : decode cX11_sort 42 = .ok (.isub, 1) := by decide +kernel
theorem dX11_sort_43 : decode cX11_sort 43 = .ok (.iaload, 1) := by decide +kernel
theorem dX11_sort_44 : decode cX11_sort 44 = .ok (.iastore, 1) := by decide +kernel
theorem dX11_sort_45 : decode cX11_sort 45 = .ok (.iinc 4 (-1), 3) := by decide +kernel
theorem dX11_sort_48 : decode cX11_sort 48 = .ok (.goto (-28), 3) := by decide +kernel
theorem dX11_sort_51 : decode cX11_sort 51 = .ok (.aload_n 0, 1) := by decide +kernel
theorem dX11_sort_52 : decode cX11_sort 52 = .ok (.iload 4, 2) := by decide +kernel
theorem dX11_sort_54 : decode cX11_sort 54 = .ok (.iload_n 3, 1) := by decide +kernel
theorem dX11_sort_55 : decode cX11_sort 55 = .ok (.iastore, 1) := by decide +kernel
theorem dX11_sort_56 : decode cX11_sort 56 = .ok (.iinc 2 1, 3) := by decide +kernel
theorem dX11_sort_59 : decode cX11_sort 59 = .ok (.goto (-57), 3) := by decide +kernel
theorem dX11_sort_62 : decode cX11_sort 62 = .ok (.return_, 1) := by decide +kernel
theorem dX11_ends_0 : decode cX11_ends 0 = .ok (.aload_n 0, 1) := by decide +kernel
theorem dX11_ends_1 : decode cX11_ends 1 = .ok (.getfield 62, 3) := by decide +kernel
theorem dX11_ends_4 : decode cX11_ends 4 = .ok (.iload_n 1, 1) := by decide +kernel
theorem dX11_ends_5 : decode cX11_ends 5 = .ok (.iload_n 2, 1) := by decide +kernel
theorem dX11_ends_6 : decode cX11_ends 6 = .ok (.invokevirtual 400, 3) := by decide +kernel
theorem dX11_ends_9 : decode cX11_ends 9 = .ok (.ireturn, 1) := by decide +kernel
theorem dX11_count_0 : decode cX11_count 0 = .ok (.iload_n 1, 1) := by decide +kernel
theorem dX11_count_1 : decode cX11_count 1 = .ok (.tableswitch 247 0 17 #[87, 95, 106, 114, 125, 133, 143, 152, 160, 168, 176, 184, 192, 200, 211, 219, 227, 237], 87) := by decide +kernel
theorem dX11_count_88 : decode cX11_count 88 = .ok (.aload_n 0, 1) := by decide +kernel
theorem dX11_count_89 : decode cX11_count 89 = .ok (.getfield 62, 3) := by decide +kernel
theorem dX11_count_92 : decode cX11_count 92 = .ok (.getfield 83, 3) := by decide +kernel
theorem dX11_count_95 : decode cX11_count 95 = .ok (.ireturn, 1) := by decide +kernel
theorem dX11_count_96 : decode cX11_count 96 = .ok (.aload_n 0, 1) := by decide +kernel
theorem dX11_count_97 : decode cX11_count 97 = .ok (.getfield 39, 3) := by decide +kernel
theorem dX11_count_100 : decode cX11_count 100 = .ok (.getfield 123, 3) := by decide +kernel
theorem dX11_count_103 : decode cX11_count 103 = .ok (.invokevirtual 97, 3) := by decide +kernel
theorem dX11_count_106 : decode cX11_count 106 = .ok (.ireturn, 1) := by decide +kernel
theorem dX11_count_107 : decode cX11_count 107 = .ok (.aload_n 0, 1) := by decide +kernel
theorem dX11_count_108 : decode cX11_count 108 = .ok (.getfield 23, 3) := by decide +kernel
theorem dX11_count_111 : decode cX11_count 111 = .ok (.invokevirtual 97, 3) := by decide +kernel
theorem dX11_count_114 : decode cX11_count 114 = .ok (.ireturn, 1) := by decide +kernel
theorem dX11_count_115 : decode cX11_count 115 = .ok (.aload_n 0, 1) := by decide +kernel
theorem dX11_count_116 : decode cX11_count 116 = .ok (.getfield 62, 3) := by decide +kernel
theorem dX11_count_119 : decode cX11_count 119 = .ok (.getfield 223, 3) := by decide +kernel
theorem dX11_count_122 : decode cX11_count 122 = .ok (.invokevirtual 97, 3) := by decide +kernel
theorem dX11_count_125 : decode cX11_count 125 = .ok (.ireturn, 1) := by decide +kernel
theorem dX11_count_126 : decode cX11_count 126 = .ok (.aload_n 0, 1) := by decide +kernel
theorem dX11_count_127 : decode cX11_count 127 = .ok (.getfield 62, 3) := by decide +kernel
theorem dX11_count_130 : decode cX11_count 130 = .ok (.invokevirtual 403, 3) := by decide +kernel
theorem dX11_count_133 : decode cX11_count 133 = .ok (.ireturn, 1) := by decide +kernel
theorem dX11_count_134 : decode cX11_count 134 = .ok (.aload_n 0, 1) := by decide +kernel
theorem dX11_count_135 : decode cX11_count 135 = .ok (.getfield 62, 3) := by decide +kernel
theorem dX11_count_138 : decode cX11_count 138 = .ok (.bipush 7, 2) := by decide +kernel
theorem dX11_count_140 : decode cX11_count 140 = .ok (.invokevirtual 345, 3) := by decide +kernel
theorem dX11_count_143 : decode cX11_count 143 = .ok (.ireturn, 1) := by decide +kernel
theorem dX11_count_144 : decode cX11_count 144 = .ok (.aload_n 0, 1) := by decide +kernel
theorem dX11_count_145 : decode cX11_count 145 = .ok (.getfield 62, 3) := by decide +kernel
theorem dX11_count_148 : decode cX11_count 148 = .ok (.iconst 3, 1) := by decide +kernel
theorem dX11_count_149 : decode cX11_count 149 = .ok (.invokevirtual 345, 3) := by decide +kernel
theorem dX11_count_152 : decode cX11_count 152 = .ok (.ireturn, 1) := by decide +kernel
theorem dX11_count_153 : decode cX11_count 153 = .ok (.aload_n 0, 1) := by decide +kernel
theorem dX11_count_154 : decode cX11_count 154 = .ok (.getfield 62, 3) := by decide +kernel
theorem dX11_count_157 : decode cX11_count 157 = .ok (.getfield 406, 3) := by decide +kernel
theorem dX11_count_160 : decode cX11_count 160 = .ok (.ireturn, 1) := by decide +kernel
theorem dX11_count_161 : decode cX11_count 161 = .ok (.aload_n 0, 1) := by decide +kernel
theorem dX11_count_162 : decode cX11_count 162 = .ok (.getfield 62, 3) := by decide +kernel
theorem dX11_count_165 : decode cX11_count 165 = .ok (.getfield 330, 3) := by decide +kernel
theorem dX11_count_168 : decode cX11_count 168 = .ok (.ireturn, 1) := by decide +kernel
theorem dX11_count_169 : decode cX11_count 169 = .ok (.aload_n 0, 1) := by decide +kernel
theorem dX11_count_170 : decode cX11_count 170 = .ok (.getfield 62, 3) := by decide +kernel
theorem dX11_count_173 : decode cX11_count 173 = .ok (.getfield 232, 3) := by decide +kernel
theorem dX11_count_176 : decode cX11_count 176 = .ok (.ireturn, 1) := by decide +kernel
theorem dX11_count_177 : decode cX11_count 177 = .ok (.aload_n 0, 1) := by decide +kernel
theorem dX11_count_178 : decode cX11_count 178 = .ok (.getfield 62, 3) := by decide +kernel
theorem dX11_count_181 : decode cX11_count 181 = .ok (.getfield 409, 3) := by decide +kernel
theorem dX11_count_184 : decode cX11_count 184 = .ok (.ireturn, 1) := by decide +kernel
theorem dX11_count_185 : decode cX11_count 185 = .ok (.aload_n 0, 1) := by decide +kernel
theorem dX11_count_186 : decode cX11_count 186 = .ok (.getfield 62, 3) := by decide +kernel
theorem dX11_count_189 : decode cX11_count 189 = .ok (.getfield 412, 3) := by decide +kernel
theorem dX11_count_192 : decode cX11_count 192 = .ok (.ireturn, 1) := by decide +kernel
theorem dX11_count_193 : decode cX11_count 193 = .ok (.aload_n 0, 1) := by decide +kernel
theorem dX11_count_194 : decode cX11_count 194 = .ok (.getfield 62, 3) := by decide +kernel
theorem dX11_count_197 : decode cX11_count 197 = .ok (.getfield 415, 3) := by decide +kernel
theorem dX11_count_200 : decode cX11_count 200 = .ok (.ireturn, 1) := by decide +kernel
theorem dX11_count_201 : decode cX11_count 201 = .ok (.aload_n 0, 1) := by decide +kernel
theorem dX11_count_202 : decode cX11_count 202 = .ok (.getfield 46, 3) := by decide +kernel
theorem dX11_count_205 : decode cX11_count 205 = .ok (.getfield 298, 3) := by decide +kernel
theorem dX11_count_208 : decode cX11_count 208 = .ok (.invokevirtual 97, 3) := by decide +kernel
theorem dX11_count_211 : decode cX11_count 211 = .ok (.ireturn, 1) := by decide +kernel
theorem dX11_count_212 : decode cX11_count 212 = .ok (.aload_n 0, 1) := by decide +kernel
theorem dX11_count_213 : decode cX11_count 213 = .ok (.getfield 62, 3) := by decide +kernel
theorem dX11_count_216 : decode cX11_count 216 = .ok (.getfield 418, 3) := by decide +kernel
theorem dX11_count_219 : decode cX11_count 219 = .ok (.ireturn, 1) := by decide +kernel
theorem dX11_count_220 : decode cX11_count 220 = .ok (.aload_n 0, 1) := by decide +kernel
theorem dX11_count_221 : decode cX11_count 221 = .ok (.invokevirtual 176, 3) := by decide +kernel
theorem dX11_count_224 : decode cX11_count 224 = .ok (.getfield 108, 3) := by decide +kernel
theorem dX11_count_227 : decode cX11_count 227 = .ok (.ireturn, 1) := by decide +kernel
theorem dX11_count_228 : decode cX11_count 228 = .ok (.aload_n 0, 1) := by decide +kernel
theorem dX11_count_229 : decode cX11_count 229 = .ok (.getfield 62, 3) := by decide +kernel
theorem dX11_count_232 : decode cX11_count 232 = .ok (.bipush 9, 2) := by decide +kernel
theorem dX11_count_234 : decode cX11_count 234 = .ok (.invokevirtual 345, 3) := by decide +kernel
theorem dX11_count_237 : decode cX11_count 237 = .ok (.ireturn, 1) := by decide +kernel
theorem dX11_count_238 : decode cX11_count 238 = .ok (.aload_n 0, 1) := by decide +kernel
theorem dX11_count_239 : decode cX11_count 239 = .ok (.getfield 62, 3) := by decide +kernel
theorem dX11_count_242 : decode cX11_count 242 = .ok (.bipush 8, 2) := by decide +kernel
theorem dX11_count_244 : decode cX11_count 244 = .ok (.invokevirtual 345, 3) := by decide +kernel
theorem dX11_count_247 : decode cX11_count 247 = .ok (.ireturn, 1) := by decide +kernel
theorem dX11_count_248 : decode cX11_count 248 = .ok (.iconst (-1), 1) := by decide +kernel
theorem dX11_count_249 : decode cX11_count 249 = .ok (.ireturn, 1) := by decide +kernel
theorem dX11_demand_0 : decode cX11_demand 0 = .ok (.iload_n 0, 1) := by decide +kernel
theorem dX11_demand_1 : decode cX11_demand 1 = .ok (.ifCond .ne 11, 3) := by decide +kernel
theorem dX11_demand_4 : decode cX11_demand 4 = .ok (.new 421, 3) := by decide +kernel
theorem dX11_demand_7 : decode cX11_demand 7 = .ok (.dup, 1) := by decide +kernel
theorem dX11_demand_8 : decode cX11_demand 8 = .ok (.invokespecial 423, 3) := by decide +kernel
theorem dX11_demand_11 : decode cX11_demand 11 = .ok (.athrow, 1) := by decide +kernel
theorem dX11_demand_12 : decode cX11_demand 12 = .ok (.return_, 1) := by decide +kernel
theorem dX11_allow_0 : decode cX11_allow 0 = .ok (.iload_n 0, 1) := by decide +kernel
theorem dX11_allow_1 : decode cX11_allow 1 = .ok (.ifCond .ne 11, 3) := by decide +kernel
theorem dX11_allow_4 : decode cX11_allow 4 = .ok (.new 424, 3) := by decide +kernel
theorem dX11_allow_7 : decode cX11_allow 7 = .ok (.dup, 1) := by decide +kernel
theorem dX11_allow_8 : decode cX11_allow 8 = .ok (.invokespecial 426, 3) := by decide +kernel
theorem dX11_allow_11 : decode cX11_allow 11 = .ok (.athrow, 1) := by decide +kernel
theorem dX11_allow_12 : decode cX11_allow 12 = .ok (.return_, 1) := by decide +kernel
theorem dX11_checkDesk_0 : decode cX11_checkDesk 0 = .ok (.iload_n 0, 1) := by decide +kernel
theorem dX11_checkDesk_1 : decode cX11_checkDesk 1 = .ok (.ifCond .lt 8, 3) := by decide +kernel
theorem dX11_checkDesk_4 : decode cX11_checkDesk 4 = .ok (.iload_n 0, 1) := by decide +kernel
theorem dX11_checkDesk_5 : decode cX11_checkDesk 5 = .ok (.iconst 4, 1) := by decide +kernel
theorem dX11_checkDesk_6 : decode cX11_checkDesk 6 = .ok (.if_icmp .lt 11, 3) := by decide +kernel
theorem dX11_checkDesk_9 : decode cX11_checkDesk 9 = .ok (.new 357, 3) := by decide +kernel
theorem dX11_checkDesk_12 : decode cX11_checkDesk 12 = .ok (.dup, 1) := by decide +kernel
theorem dX11_checkDesk_13 : decode cX11_checkDesk 13 = .ok (.invokespecial 359, 3) := by decide +kernel
theorem dX11_checkDesk_16 : decode cX11_checkDesk 16 = .ok (.athrow, 1) := by decide +kernel
theorem dX11_checkDesk_17 : decode cX11_checkDesk 17 = .ok (.return_, 1) := by decide +kernel
theorem dX11_personAt_0 : decode cX11_personAt 0 = .ok (.iload_n 1, 1) := by decide +kernel
theorem dX11_personAt_1 : decode cX11_personAt 1 = .ok (.ifCond .lt 17, 3) := by decide +kernel
theorem dX11_personAt_4 : decode cX11_personAt 4 = .ok (.iload_n 1, 1) := by decide +kernel
theorem dX11_personAt_5 : decode cX11_personAt 5 = .ok (.aload_n 0, 1) := by decide +kernel
theorem dX11_personAt_6 : decode cX11_personAt 6 = .ok (.getfield 39, 3) := by decide +kernel
theorem dX11_personAt_9 : decode cX11_personAt 9 = .ok (.getfield 123, 3) := by decide +kernel
theorem dX11_personAt_12 : decode cX11_personAt 12 = .ok (.invokevirtual 97, 3) := by decide +kernel
theorem dX11_personAt_15 : decode cX11_personAt 15 = .ok (.if_icmp .lt 11, 3) := by decide +kernel
theorem dX11_personAt_18 : decode cX11_personAt 18 = .ok (.new 357, 3) := by decide +kernel
theorem dX11_personAt_21 : decode cX11_personAt 21 = .ok (.dup, 1) := by decide +kernel
theorem dX11_personAt_22 : decode cX11_personAt 22 = .ok (.invokespecial 359, 3) := by decide +kernel
theorem dX11_personAt_25 : decode cX11_personAt 25 = .ok (.athrow, 1) := by decide +kernel
theorem dX11_personAt_26 : decode cX11_personAt 26 = .ok (.aload_n 0, 1) := by decide +kernel
theorem dX11_personAt_27 : decode cX11_personAt 27 = .ok (.getfield 39, 3) := by decide +kernel
theorem dX11_personAt_30 : decode cX11_personAt 30 = .ok (.getfield 123, 3) := by decide +kernel
theorem dX11_personAt_33 : decode cX11_personAt 33 = .ok (.iload_n 1, 1) := by decide +kernel
theorem dX11_personAt_34 : decode cX11_personAt 34 = .ok (.invokevirtual 111, 3) := by decide +kernel
theorem dX11_personAt_37 : decode cX11_personAt 37 = .ok (.checkcast 126, 3) := by decide +kernel
theorem dX11_personAt_40 : decode cX11_personAt 40 = .ok (.areturn, 1) := by decide +kernel
theorem dX11_askingAt_0 : decode cX11_askingAt 0 = .ok (.iload_n 1, 1) := by decide +kernel
theorem dX11_askingAt_1 : decode cX11_askingAt 1 = .ok (.ifCond .lt 17, 3) := by decide +kernel
theorem dX11_askingAt_4 : decode cX11_askingAt 4 = .ok (.iload_n 1, 1) := by decide +kernel
theorem dX11_askingAt_5 : decode cX11_askingAt 5 = .ok (.aload_n 0, 1) := by decide +kernel
theorem dX11_askingAt_6 : decode cX11_askingAt 6 = .ok (.getfield 62, 3) := by decide +kernel
theorem dX11_askingAt_9 : decode cX11_askingAt 9 = .ok (.getfield 223, 3) := by decide +kernel
theorem dX11_askingAt_12 : decode cX11_askingAt 12 = .ok (.invokevirtual 97, 3) := by decide +kernel
theorem dX11_askingAt_15 : decode cX11_askingAt 15 = .ok (.if_icmp .lt 11, 3) := by decide +kernel
theorem dX11_askingAt_18 : decode cX11_askingAt 18 = .ok (.new 357, 3) := by decide +kernel
theorem dX11_askingAt_21 : decode cX11_askingAt 21 = .ok (.dup, 1) := by decide +kernel
theorem dX11_askingAt_22 : decode cX11_askingAt 22 = .ok (.invokespecial 359, 3) := by decide +kernel
theorem dX11_askingAt_25 : decode cX11_askingAt 25 = .ok (.athrow, 1) := by decide +kernel
theorem dX11_askingAt_26 : decode cX11_askingAt 26 = .ok (.aload_n 0, 1) := by decide +kernel
theorem dX11_askingAt_27 : decode cX11_askingAt 27 = .ok (.getfield 62, 3) := by decide +kernel
theorem dX11_askingAt_30 : decode cX11_askingAt 30 = .ok (.getfield 223, 3) := by decide +kernel
theorem dX11_askingAt_33 : decode cX11_askingAt 33 = .ok (.iload_n 1, 1) := by decide +kernel
theorem dX11_askingAt_34 : decode cX11_askingAt 34 = .ok (.invokevirtual 111, 3) := by decide +kernel
theorem dX11_askingAt_37 : decode cX11_askingAt 37 = .ok (.checkcast 218, 3) := by decide +kernel
theorem dX11_askingAt_40 : decode cX11_askingAt 40 = .ok (.areturn, 1) := by decide +kernel
