theorem dX6_init_0 : decode cX6_init 0 = .ok (.aload_n 0, 1) := by decide +kernel
theorem dX6_init_1 : decode cX6_init 1 = .ok (.invokespecial 3, 3) := by decide +kernel
theorem dX6_init_4 : decode cX6_init 4 = .ok (.aload_n 0, 1) := by decide +kernel
theorem dX6_init_5 : decode cX6_init 5 = .ok (.new 9, 3) := by decide +kernel
theorem dX6_init_8 : decode cX6_init 8 = .ok (.dup, 1) := by decide +kernel
theorem dX6_init_9 : decode cX6_init 9 = .ok (.invokespecial 11, 3) := by decide +kernel
theorem dX6_init_12 : decode cX6_init 12 = .ok (.putfield 12, 3) := by decide +kernel
theorem dX6_init_15 : decode cX6_init 15 = .ok (.aload_n 0, 1) := by decide +kernel
theorem dX6_init_16 : decode cX6_init 16 = .ok (.new 9, 3) := by decide +kernel
theorem dX6_init_19 : decode cX6_init 19 = .ok (.dup, 1) := by decide +kernel
theorem dX6_init_20 : decode cX6_init 20 = .ok (.invokespecial 11, 3) := by decide +kernel
theorem dX6_init_23 : decode cX6_init 23 = .ok (.putfield 18, 3) := by decide +kernel
theorem dX6_init_26 : decode cX6_init 26 = .ok (.aload_n 0, 1) := by decide +kernel
theorem dX6_init_27 : decode cX6_init 27 = .ok (.iconst 0, 1) := by decide +kernel
theorem dX6_init_28 : decode cX6_init 28 = .ok (.putfield 21, 3) := by decide +kernel
theorem dX6_init_31 : decode cX6_init 31 = .ok (.aload_n 0, 1) := by decide +kernel
theorem dX6_init_32 : decode cX6_init 32 = .ok (.iconst 0, 1) := by decide +kernel
theorem dX6_init_33 : decode cX6_init 33 = .ok (.putfield 25, 3) := by decide +kernel
theorem dX6_init_36 : decode cX6_init 36 = .ok (.aload_n 0, 1) := by decide +kernel
theorem dX6_init_37 : decode cX6_init 37 = .ok (.iconst 0, 1) := by decide +kernel
theorem dX6_init_38 : decode cX6_init 38 = .ok (.putfield 28, 3) := by decide +kernel
theorem dX6_init_41 : decode cX6_init 41 = .ok (.aload_n 0, 1) := by decide +kernel
theorem dX6_init_42 : decode cX6_init 42 = .ok (.iconst 0, 1) := by decide +kernel
theorem dX6_init_43 : decode cX6_init 43 = .ok (.putfield 31, 3) := by decide +kernel
theorem dX6_init_46 : decode cX6_init 46 = .ok (.aload_n 0, 1) := by decide +kernel
theorem dX6_init_47 : decode cX6_init 47 = .ok (.iconst 0, 1) := by decide +kernel
theorem dX6_init_48 : decode cX6_init 48 = .ok (.putfield 34, 3) := by decide +kernel
theorem dX6_init_51 : decode cX6_init 51 = .ok (.aload_n 0, 1) := by decide +kernel
theorem dX6_init_52 : decode cX6_init 52 = .ok (.iconst 0, 1) := by decide +kernel
theorem dX6_init_53 : decode cX6_init 53 = .ok (.putfield 37, 3) := by decide +kernel
theorem dX6_init_56 : decode cX6_init 56 = .ok (.aload_n 0, 1) := by decide +kernel
theorem dX6_init_57 : decode cX6_init 57 = .ok (.iconst 0, 1) := by decide +kernel
theorem dX6_init_58 : decode cX6_init 58 = .ok (.putfield 40, 3) := by decide +kernel
theorem dX6_init_61 : decode cX6_init 61 = .ok (.aload_n 0, 1) := by decide +kernel
theorem dX6_init_62 : decode cX6_init 62 = .ok (.iconst 0, 1) := by decide +kernel
theorem dX6_init_63 : decode cX6_init 63 = .ok (.putfield 43, 3) := by decide +kernel
theorem dX6_init_66 : decode cX6_init 66 = .ok (.aload_n 0, 1) := by decide +kernel
theorem dX6_init_67 : decode cX6_init 67 = .ok (.iconst 0, 1) := by decide +kernel
theorem dX6_init_68 : decode cX6_init 68 = .ok (.putfield 46, 3) := by decide +kernel
theorem dX6_init_71 : decode cX6_init 71 = .ok (.aload_n 0, 1) := by decide +kernel
theorem dX6_init_72 : decode cX6_init 72 = .ok (.aload_n 1, 1) := by decide +kernel
theorem dX6_init_73 : decode cX6_init 73 = .ok (.putfield 49, 3) := by decide +kernel
theorem dX6_init_76 : decode cX6_init 76 = .ok (.aload_n 0, 1) := by decide +kernel
theorem dX6_init_77 : decode cX6_init 77 = .ok (.aload_n 2, 1) := by decide +kernel
theorem dX6_init_78 : decode cX6_init 78 = .ok (.putfield 53, 3) := by decide +kernel
theorem dX6_init_81 : decode cX6_init 81 = .ok (.aload_n 0, 1) := by decide +kernel
theorem dX6_init_82 : decode cX6_init 82 = .ok (.aload_n 3, 1) := by decide +kernel
theorem dX6_init_83 : decode cX6_init 83 = .ok (.putfield 57, 3) := by decide +kernel
theorem dX6_init_86 : decode cX6_init 86 = .ok (.return_, 1) := by decide +kernel
theorem dX6_copyFrom_0 : decode cX6_copyFrom 0 = .ok (.aload_n 0, 1) := by decide +kernel
theorem dX6_copyFrom_1 : decode cX6_copyFrom 1 = .ok (.aload_n 1, 1) := by decide +kernel
theorem dX6_copyFrom_2 : decode cX6_copyFrom 2 = .ok (.invokevirtual 61, 3) := by decide +kernel
theorem dX6_copyFrom_5 : decode cX6_copyFrom 5 = .ok (.aload_n 0, 1) := by decide +kernel
theorem dX6_copyFrom_6 : decode cX6_copyFrom 6 = .ok (.aload_n 1, 1) := by decide +kernel
theorem dX6_copyFrom_7 : decode cX6_copyFrom 7 = .ok (.invokevirtual 65, 3) := by decide +kernel
theorem dX6_copyFrom_10 : decode cX6_copyFrom 10 = .ok (.aload_n 0, 1) := by decide +kernel
theorem dX6_copyFrom_11 : decode cX6_copyFrom 11 = .ok (.aload_n 1, 1) := by decide +kernel
theorem dX6_copyFrom_12 : decode cX6_copyFrom 12 = .ok (.getfield 25, 3) := by decide +kernel
theorem dX6_copyFrom_15 : decode cX6_copyFrom 15 = .ok (.putfield 25, 3) := by decide +kernel
theorem dX6_copyFrom_18 : decode cX6_copyFrom 18 = .ok (.aload_n 0, 1) := by decide +kernel
theorem dX6_copyFrom_19 : decode cX6_copyFrom 19 = .ok (.aload_n 1, 1) := by decide +kernel
theorem dX6_copyFrom_20 : decode cX6_copyFrom 20 = .ok (.getfield 28, 3) := by decide +kernel
theorem dX6_copyFrom_23 : decode cX6_copyFrom 23 = .ok (.putfield 28, 3) := by decide +kernel
theorem dX6_copyFrom_26 : decode cX6_copyFrom 26 = .ok (.aload_n 0, 1) := by decide +kernel
theorem dX6_copyFrom_27 : decode cX6_copyFrom 27 = .ok (.aload_n 1, 1) := by decide +kernel
theorem dX6_copyFrom_28 : decode cX6_copyFrom 28 = .ok (.getfield 31, 3) := by decide +kernel
theorem dX6_copyFrom_31 : decode cX6_copyFrom 31 = .ok (.putfield 31, 3) := by decide +kernel
theorem dX6_copyFrom_34 : decode cX6_copyFrom 34 = .ok (.aload_n 0, 1) := by decide +kernel
theorem dX6_copyFrom_35 : decode cX6_copyFrom 35 = .ok (.aload_n 1, 1) := by decide +kernel
theorem dX6_copyFrom_36 : decode cX6_copyFrom 36 = .ok (.getfield 34, 3) := by decide +kernel
theorem dX6_copyFrom_39 : decode cX6_copyFrom 39 = .ok (.putfield 34, 3) := by decide +kernel
theorem dX6_copyFrom_42 : decode cX6_copyFrom 42 = .ok (.aload_n 0, 1) := by decide +kernel
theorem dX6_copyFrom_43 : decode cX6_copyFrom 43 = .ok (.aload_n 1, 1) := by decide +kernel
theorem dX6_copyFrom_44 : decode cX6_copyFrom 44 = .ok (.getfield 37, 3) := by decide +kernel
theorem dX6_copyFrom_47 : decode cX6_copyFrom 47 = .ok (.putfield 37, 3) := by decide +kernel
theorem dX6_copyFrom_50 : decode cX6_copyFrom 50 = .ok (.aload_n 0, 1) := by decide +kernel
theorem dX6_copyFrom_51 : decode cX6_copyFrom 51 = .ok (.aload_n 1, 1) := by decide +kernel
theorem dX6_copyFrom_52 : decode cX6_copyFrom 52 = .ok (.getfield 40, 3) := by decide +kernel
theorem dX6_copyFrom_55 : decode cX6_copyFrom 55 = .ok (.putfield 40, 3) := by decide +kernel
theorem dX6_copyFrom_58 : decode cX6_copyFrom 58 = .ok (.aload_n 0, 1) := by decide +kernel
theorem dX6_copyFrom_59 : decode cX6_copyFrom 59 = .ok (.aload_n 1, 1) := by decide +kernel
theorem dX6_copyFrom_60 : decode cX6_copyFrom 60 = .ok (.getfield 43, 3) := by decide +kernel
theorem dX6_copyFrom_63 : decode cX6_copyFrom 63 = .ok (.putfield 43, 3) := by decide +kernel
theorem dX6_copyFrom_66 : decode cX6_copyFrom 66 = .ok (.aload_n 0, 1) := by decide +kernel
theorem dX6_copyFrom_67 : decode cX6_copyFrom 67 = .ok (.aload_n 1, 1) := by decide +kernel
theorem dX6_copyFrom_68 : decode cX6_copyFrom 68 = .ok (.getfield 46, 3) := by decide +kernel
theorem dX6_copyFrom_71 : decode cX6_copyFrom 71 = .ok (.putfield 46, 3) := by decide +kernel
theorem dX6_copyFrom_74 : decode cX6_copyFrom 74 = .ok (.return_, 1) := by decide +kernel
theorem dX6_copyAskings_0 : decode cX6_copyAskings 0 = .ok (.iconst 0, 1) := by decide +kernel
theorem dX6_copyAskings_1 : decode cX6_copyAskings 1 = .ok (.istore_n 2, 1) := by decide +kernel
theorem dX6_copyAskings_2 : decode cX6_copyAskings 2 = .ok (.iload_n 2, 1) := by decide +kernel
theorem dX6_copyAskings_3 : decode cX6_copyAskings 3 = .ok (.aload_n 1, 1) := by decide +kernel
theorem dX6_copyAskings_4 : decode cX6_copyAskings 4 = .ok (.getfield 12, 3) := by decide +kernel
theorem dX6_copyAskings_7 : decode cX6_copyAskings 7 = .ok (.invokevirtual 68, 3) := by decide +kernel
theorem dX6_copyAskings_10 : decode cX6_copyAskings 10 = .ok (.if_icmp .ge 70, 3) := by decide +kernel
theorem dX6_copyAskings_13 : decode cX6_copyAskings 13 = .ok (.aload_n 1, 1) := by decide +kernel
theorem dX6_copyAskings_14 : decode cX6_copyAskings 14 = .ok (.getfield 12, 3) := by decide +kernel
theorem dX6_copyAskings_17 : decode cX6_copyAskings 17 = .ok (.iload_n 2, 1) := by decide +kernel
theorem dX6_copyAskings_18 : decode cX6_copyAskings 18 = .ok (.invokevirtual 72, 3) := by decide +kernel
theorem dX6_copyAskings_21 : decode cX6_copyAskings 21 = .ok (.checkcast 76, 3) := by decide +kernel
theorem dX6_copyAskings_24 : decode cX6_copyAskings 24 = .ok (.astore_n 3, 1) := by decide +kernel
theorem dX6_copyAskings_25 : decode cX6_copyAskings 25 = .ok (.iload_n 2, 1) := by decide +kernel
theorem dX6_copyAskings_26 : decode cX6_copyAskings 26 = .ok (.aload_n 0, 1) := by decide +kernel
theorem dX6_copyAskings_27 : decode cX6_copyAskings 27 = .ok (.getfield 12, 3) := by decide +kernel
theorem dX6_copyAskings_30 : decode cX6_copyAskings 30 = .ok (.invokevirtual 68, 3) := by decide +kernel
theorem dX6_copyAskings_33 : decode cX6_copyAskings 33 = .ok (.if_icmp .lt 15, 3) := by decide +kernel
theorem dX6_copyAskings_36 : decode cX6_copyAskings 36 = .ok (.aload_n 0, 1) := by decide +kernel
theorem dX6_copyAskings_37 : decode cX6_copyAskings 37 = .ok (.getfield 12, 3) := by decide +kernel
theorem dX6_copyAskings_40 : decode cX6_copyAskings 40 = .ok (.aload_n 3, 1) := by decide +kernel
theorem dX6_copyAskings_41 : decode cX6_copyAskings 41 = .ok (.invokevirtual 78, 3) := by decide +kernel
theorem dX6_copyAskings_44 : decode cX6_copyAskings 44 = .ok (.invokevirtual 82, 3) := by decide +kernel
theorem dX6_copyAskings_47 : decode cX6_copyAskings 47 = .ok (.pop, 1) := by decide +kernel
theorem dX6_copyAskings_48 : decode cX6_copyAskings 48 = .ok (.iload_n 2, 1) := by decide +kernel
theorem dX6_copyAskings_49 : decode cX6_copyAskings 49 = .ok (.aload_n 0, 1) := by decide +kernel
theorem dX6_copyAskings_50 : decode cX6_copyAskings 50 = .ok (.getfield 12, 3) := by decide +kernel
theorem dX6_copyAskings_53 : decode cX6_copyAskings 53 = .ok (.invokevirtual 68, 3) := by decide +kernel
theorem dX6_copyAskings_56 : decode cX6_copyAskings 56 = .ok (.if_icmp .ge 18, 3) := by decide +kernel
theorem dX6_copyAskings_59 : decode cX6_copyAskings 59 = .ok (.aload_n 0, 1) := by decide +kernel
theorem dX6_copyAskings_60 : decode cX6_copyAskings 60 = .ok (.getfield 12, 3) := by decide +kernel
theorem dX6_copyAskings_63 : decode cX6_copyAskings 63 = .ok (.iload_n 2, 1) := by decide +kernel
theorem dX6_copyAskings_64 : decode cX6_copyAskings 64 = .ok (.invokevirtual 72, 3) := by decide +kernel
theorem dX6_copyAskings_67 : decode cX6_copyAskings 67 = .ok (.checkcast 76, 3) := by decide +kernel
theorem dX6_copyAskings_70 : decode cX6_copyAskings 70 = .ok (.aload_n 3, 1) := by decide +kernel
theorem dX6_copyAskings_71 : decode cX6_copyAskings 71 = .ok (.invokevirtual 86, 3) := by decide +kernel
theorem dX6_copyAskings_74 : decode cX6_copyAskings 74 = .ok (.iinc 2 1, 3) := by decide +kernel
theorem dX6_copyAskings_77 : decode cX6_copyAskings 77 = .ok (.goto (-75), 3) := by decide +kernel
theorem dX6_copyAskings_80 : decode cX6_copyAskings 80 = .ok (.return_, 1) := by decide +kernel
theorem dX6_copyBooklets_0 : decode cX6_copyBooklets 0 = .ok (.aload_n 0, 1) := by decide +kernel
theorem dX6_copyBooklets_1 : decode cX6_copyBooklets 1 = .ok (.iconst 0, 1) := by decide +kernel
theorem dX6_copyBooklets_2 : decode cX6_copyBooklets 2 = .ok (.putfield 21, 3) := by decide +kernel
theorem dX6_copyBooklets_5 : decode cX6_copyBooklets 5 = .ok (.iconst 0, 1) := by decide +kernel
theorem dX6_copyBooklets_6 : decode cX6_copyBooklets 6 = .ok (.istore_n 2, 1) := by decide +kernel
theorem dX6_copyBooklets_7 : decode cX6_copyBooklets 7 = .ok (.iload_n 2, 1) := by decide +kernel
theorem dX6_copyBooklets_8 : decode cX6_copyBooklets 8 = .ok (.aload_n 1, 1) := by decide +kernel
theorem dX6_copyBooklets_9 : decode cX6_copyBooklets 9 = .ok (.getfield 21, 3) := by decide +kernel
theorem dX6_copyBooklets_12 : decode cX6_copyBooklets 12 = .ok (.if_icmp .ge 38, 3) := by decide +kernel
theorem dX6_copyBooklets_15 : decode cX6_copyBooklets 15 = .ok (.iload_n 2, 1) := by decide +kernel
theorem dX6_copyBooklets_16 : decode cX6_copyBooklets 16 = .ok (.aload_n 1, 1) := by decide +kernel
theorem dX6_copyBooklets_17 : decode cX6_copyBooklets 17 = .ok (.getfield 18, 3) := by decide +kernel
theorem dX6_copyBooklets_20 : decode cX6_copyBooklets 20 = .ok (.invokevirtual 68, 3) := by decide +kernel
theorem dX6_copyBooklets_23 : decode cX6_copyBooklets 23 = .ok (.if_icmp .ge 27, 3) := by decide +kernel
theorem dX6_copyBooklets_26 : decode cX6_copyBooklets 26 = .ok (.aload_n 0, 1) := by decide +kernel
theorem dX6_copyBooklets_27 : decode cX6_copyBooklets 27 = .ok (.invokevirtual 90, 3) := by decide +kernel
theorem dX6_copyBooklets_30 : decode cX6_copyBooklets 30 = .ok (.aload_n 1, 1) := by decide +kernel
theorem dX6_copyBooklets_31 : decode cX6_copyBooklets 31 = .ok (.getfield 18, 3) := by decide +kernel
theorem dX6_copyBooklets_34 : decode cX6_copyBooklets 34 = .ok (.iload_n 2, 1) := by decide +kernel
theorem dX6_copyBooklets_35 : decode cX6_copyBooklets 35 = .ok (.invokevirtual 72, 3) := by decide +kernel
theorem dX6_copyBooklets_38 : decode cX6_copyBooklets 38 = .ok (.checkcast 94, 3) := by decide +kernel
theorem dX6_copyBooklets_41 : decode cX6_copyBooklets 41 = .ok (.invokevirtual 96, 3) := by decide +kernel
theorem dX6_copyBooklets_44 : decode cX6_copyBooklets 44 = .ok (.iinc 2 1, 3) := by decide +kernel
theorem dX6_copyBooklets_47 : decode cX6_copyBooklets 47 = .ok (.goto (-40), 3) := by decide +kernel
theorem dX6_copyBooklets_50 : decode cX6_copyBooklets 50 = .ok (.return_, 1) := by decide +kernel
theorem dX6_newBooklet_0 : decode cX6_newBooklet 0 = .ok (.aload_n 0, 1) := by decide +kernel
theorem dX6_newBooklet_1 : decode cX6_newBooklet 1 = .ok (.getfield 21, 3) := by decide +kernel
theorem dX6_newBooklet_4 : decode cX6_newBooklet 4 = .ok (.aload_n 0, 1) := by decide +kernel
theorem dX6_newBooklet_5 : decode cX6_newBooklet 5 = .ok (.getfield 18, 3) := by decide +kernel
theorem dX6_newBooklet_8 : decode cX6_newBooklet 8 = .ok (.invokevirtual 68, 3) := by decide +kernel
theorem dX6_newBooklet_11 : decode cX6_newBooklet 11 = .ok (.if_icmp .lt 18, 3) := by decide +kernel
theorem dX6_newBooklet_14 : decode cX6_newBooklet 14 = .ok (.aload_n 0, 1) := by decide +kernel
theorem dX6_newBooklet_15 : decode cX6_newBooklet 15 = .ok (.getfield 18, 3) := by decide +kernel
theorem dX6_newBooklet_18 : decode cX6_newBooklet 18 = .ok (.new 94, 3) := by decide +kernel
theorem dX6_newBooklet_21 : decode cX6_newBooklet 21 = .ok (.dup, 1) := by decide +kernel
theorem dX6_newBooklet_22 : decode cX6_newBooklet 22 = .ok (.invokespecial 99, 3) := by decide +kernel
theorem dX6_newBooklet_25 : decode cX6_newBooklet 25 = .ok (.invokevirtual 82, 3) := by decide +kernel
theorem dX6_newBooklet_28 : decode cX6_newBooklet 28 = .ok (.pop, 1) := by decide +kernel
theorem dX6_newBooklet_29 : decode cX6_newBooklet 29 = .ok (.aload_n 0, 1) := by decide +kernel
theorem dX6_newBooklet_30 : decode cX6_newBooklet 30 = .ok (.getfield 18, 3) := by decide +kernel
theorem dX6_newBooklet_33 : decode cX6_newBooklet 33 = .ok (.aload_n 0, 1) := by decide +kernel
theorem dX6_newBooklet_34 : decode cX6_newBooklet 34 = .ok (.getfield 21, 3) := by decide +kernel
theorem dX6_newBooklet_37 : decode cX6_newBooklet 37 = .ok (.aload_n 0, 1) := by decide +kernel
theorem dX6_newBooklet_38 : decode cX6_newBooklet 38 = .ok (.getfield 18, 3) := by decide +kernel
theorem dX6_newBooklet_41 : decode cX6_newBooklet 41 = .ok (.invokevirtual 68, 3) := by decide +kernel
theorem dX6_newBooklet_44 : decode cX6_newBooklet 44 = .ok (.iconst 1, 1) := by decide +kernel
theorem dX6_newBooklet_45 : decode cX6_newBooklet 45 = .ok (.isub, 1) := by decide +kernel
theorem dX6_newBooklet_46 : decode cX6_newBooklet 46 = .ok (.invokestatic 100, 3) := by decide +kernel
theorem dX6_newBooklet_49 : decode cX6_newBooklet 49 = .ok (.invokevirtual 72, 3) := by decide +kernel
theorem dX6_newBooklet_52 : decode cX6_newBooklet 52 = .ok (.checkcast 94, 3) := by decide +kernel
theorem dX6_newBooklet_55 : decode cX6_newBooklet 55 = .ok (.astore_n 1, 1) := by decide +kernel
theorem dX6_newBooklet_56 : decode cX6_newBooklet 56 = .ok (.aload_n 0, 1) := by decide +kernel
theorem dX6_newBooklet_57 : decode cX6_newBooklet 57 = .ok (.dup, 1) := by decide +kernel
theorem dX6_newBooklet_58 : decode cX6_newBooklet 58 = .ok (.getfield 21, 3) := by decide +kernel
theorem dX6_newBooklet_61 : decode cX6_newBooklet 61 = .ok (.iconst 1, 1) := by decide +kernel
theorem dX6_newBooklet_62 : decode cX6_newBooklet 62 = .ok (.iadd, 1) := by decide +kernel
theorem dX6_newBooklet_63 : decode cX6_newBooklet 63 = .ok (.putfield 21, 3) := by decide +kernel
theorem dX6_newBooklet_66 : decode cX6_newBooklet 66 = .ok (.aload_n 1, 1) := by decide +kernel
theorem dX6_newBooklet_67 : decode cX6_newBooklet 67 = .ok (.areturn, 1) := by decide +kernel
theorem dX6_bookletAt_0 : decode cX6_bookletAt 0 = .ok (.iload_n 1, 1) := by decide +kernel
theorem dX6_bookletAt_1 : decode cX6_bookletAt 1 = .ok (.ifCond .lt 26, 3) := by decide +kernel
theorem dX6_bookletAt_4 : decode cX6_bookletAt 4 = .ok (.iload_n 1, 1) := by decide +kernel
theorem dX6_bookletAt_5 : decode cX6_bookletAt 5 = .ok (.aload_n 0, 1) := by decide +kernel
theorem dX6_bookletAt_6 : decode cX6_bookletAt 6 = .ok (.getfield 21, 3) := by decide +kernel
theorem dX6_bookletAt_9 : decode cX6_bookletAt 9 = .ok (.if_icmp .ge 18, 3) := by decide +kernel
theorem dX6_bookletAt_12 : decode cX6_bookletAt 12 = .ok (.iload_n 1, 1) := by decide +kernel
theorem dX6_bookletAt_13 : decode cX6_bookletAt 13 = .ok (.aload_n 0, 1) := by decide +kernel
theorem dX6_bookletAt_14 : decode cX6_bookletAt 14 = .ok (.getfield 18, 3) := by decide +kernel
theorem dX6_bookletAt_17 : decode cX6_bookletAt 17 = .ok (.invokevirtual 68, 3) := by decide +kernel
theorem dX6_bookletAt_20 : decode cX6_bookletAt 20 = .ok (.if_icmp .ge 7, 3) := by decide +kernel
theorem dX6_bookletAt_23 : decode cX6_bookletAt 23 = .ok (.iconst 1, 1) := by decide +kernel
theorem dX6_bookletAt_24 : decode cX6_bookletAt 24 = .ok (.goto 4, 3) := by decide +kernel
theorem dX6_bookletAt_27 : decode cX6_bookletAt 27 = .ok (.iconst 0, 1) := by decide +kernel
theorem dX6_bookletAt_28 : decode cX6_bookletAt 28 = .ok (.istore_n 2, 1) := by decide +kernel
theorem dX6_bookletAt_29 : decode cX6_bookletAt 29 = .ok (.iload_n 2, 1) := by decide +kernel
theorem dX6_bookletAt_30 : decode cX6_bookletAt 30 = .ok (.ifCond .eq 17, 3) := by decide +kernel
theorem dX6_bookletAt_33 : decode cX6_bookletAt 33 = .ok (.aload_n 0, 1) := by decide +kernel
theorem dX6_bookletAt_34 : decode cX6_bookletAt 34 = .ok (.getfield 18, 3) := by decide +kernel
theorem dX6_bookletAt_37 : decode cX6_bookletAt 37 = .ok (.iload_n 1, 1) := by decide +kernel
theorem dX6_bookletAt_38 : decode cX6_bookletAt 38 = .ok (.invokevirtual 72, 3) := by decide +kernel
theorem dX6_bookletAt_41 : decode cX6_bookletAt 41 = .ok (.checkcast 94, 3) := by decide +kernel
theorem dX6_bookletAt_44 : decode cX6_bookletAt 44 = .ok (.goto 4, 3) := by decide +kernel
theorem dX6_bookletAt_47 : decode cX6_bookletAt 47 = .ok (.aconst_null, 1) := by decide +kernel
theorem dX6_bookletAt_48 : decode cX6_bookletAt 48 = .ok (.areturn, 1) := by decide +kernel
theorem dX6_countIn_0 : decode cX6_countIn 0 = .ok (.iconst 0, 1) := by decide +kernel
theorem dX6_countIn_1 : decode cX6_countIn 1 = .ok (.istore_n 2, 1) := by decide +kernel
theorem dX6_countIn_2 : decode cX6_countIn 2 = .ok (.iconst 0, 1) := by decide +kernel
theorem dX6_countIn_3 : decode cX6_countIn 3 = .ok (.istore_n 3, 1) := by decide +kernel
theorem dX6_countIn_4 : decode cX6_countIn 4 = .ok (.iload_n 3, 1) := by decide +kernel
theorem dX6_countIn_5 : decode cX6_countIn 5 = .ok (.aload_n 0, 1) := by decide +kernel
theorem dX6_countIn_6 : decode cX6_countIn 6 = .ok (.getfield 12, 3) := by decide +kernel
theorem dX6_countIn_9 : decode cX6_countIn 9 = .ok (.invokevirtual 68, 3) := by decide +kernel
theorem dX6_countIn_12 : decode cX6_countIn 12 = .ok (.if_icmp .ge 30, 3) := by decide +kernel
theorem dX6_countIn_15 : decode cX6_countIn 15 = .ok (.aload_n 0, 1) := by decide +kernel
theorem dX6_countIn_16 : decode cX6_countIn 16 = .ok (.getfield 12, 3) := by decide +kernel
theorem dX6_countIn_19 : decode cX6_countIn 19 = .ok (.iload_n 3, 1) := by decide +kernel
theorem dX6_countIn_20 : decode cX6_countIn 20 = .ok (.invokevirtual 72, 3) := by decide +kernel
theorem dX6_countIn_23 : decode cX6_countIn 23 = .ok (.checkcast 76, 3) := by decide +kernel
theorem dX6_countIn_26 : decode cX6_countIn 26 = .ok (.getfield 106, 3) := by decide +kernel
theorem dX6_countIn_29 : decode cX6_countIn 29 = .ok (.iload_n 1, 1) := by decide +kernel
theorem dX6_countIn_30 : decode cX6_countIn 30 = .ok (.if_icmp .ne 6, 3) := by decide +kernel
theorem dX6_countIn_33 : decode cX6_countIn 33 = .ok (.iinc 2 1, 3) := by decide +kernel
theorem dX6_countIn_36 : decode cX6_countIn 36 = .ok (.iinc 3 1, 3) := by decide +kernel
theorem dX6_countIn_39 : decode cX6_countIn 39 = .ok (.goto (-35), 3) := by decide +kernel
theorem dX6_countIn_42 : decode cX6_countIn 42 = .ok (.iload_n 2, 1) := by decide +kernel
theorem dX6_countIn_43 : decode cX6_countIn 43 = .ok (.ireturn, 1) := by decide +kernel
theorem dX6_countOpen_0 : decode cX6_countOpen 0 = .ok (.iconst 0, 1) := by decide +kernel
theorem dX6_countOpen_1 : decode cX6_countOpen 1 = .ok (.istore_n 1, 1) := by decide +kernel
theorem dX6_countOpen_2 : decode cX6_countOpen 2 = .ok (.iconst 0, 1) := by decide +kernel
theorem dX6_countOpen_3 : decode cX6_countOpen 3 = .ok (.istore_n 2, 1) := by decide +kernel
theorem dX6_countOpen_4 : decode cX6_countOpen 4 = .ok (.iload_n 2, 1) := by decide +kernel
theorem dX6_countOpen_5 : decode cX6_countOpen 5 = .ok (.aload_n 0, 1) := by decide +kernel
theorem dX6_countOpen_6 : decode cX6_countOpen 6 = .ok (.getfield 12, 3) := by decide +kernel
theorem dX6_countOpen_9 : decode cX6_countOpen 9 = .ok (.invokevirtual 68, 3) := by decide +kernel
theorem dX6_countOpen_12 : decode cX6_countOpen 12 = .ok (.if_icmp .ge 29, 3) := by decide +kernel
theorem dX6_countOpen_15 : decode cX6_countOpen 15 = .ok (.aload_n 0, 1) := by decide +kernel
theorem dX6_countOpen_16 : decode cX6_countOpen 16 = .ok (.getfield 12, 3) := by decide +kernel
theorem dX6_countOpen_19 : decode cX6_countOpen 19 = .ok (.iload_n 2, 1) := by decide +kernel
theorem dX6_countOpen_20 : decode cX6_countOpen 20 = .ok (.invokevirtual 72, 3) := by decide +kernel
theorem dX6_countOpen_23 : decode cX6_countOpen 23 = .ok (.checkcast 76, 3) := by decide +kernel
theorem dX6_countOpen_26 : decode cX6_countOpen 26 = .ok (.invokevirtual 109, 3) := by decide +kernel
theorem dX6_countOpen_29 : decode cX6_countOpen 29 = .ok (.ifCond .eq 6, 3) := by decide +kernel
theorem dX6_countOpen_32 : decode cX6_countOpen 32 = .ok (.iinc 1 1, 3) := by decide +kernel
theorem dX6_countOpen_35 : decode cX6_countOpen 35 = .ok (.iinc 2 1, 3) := by decide +kernel
theorem dX6_countOpen_38 : decode cX6_countOpen 38 = .ok (.goto (-34), 3) := by decide +kernel
theorem dX6_countOpen_41 : decode cX6_countOpen 41 = .ok (.iload_n 1, 1) := by decide +kernel
theorem dX6_countOpen_42 : decode cX6_countOpen 42 = .ok (.ireturn, 1) := by decide +kernel
theorem dX6_validOf_0 : decode cX6_validOf 0 = .ok (.iconst 0, 1) := by decide +kernel
theorem dX6_validOf_1 : decode cX6_validOf 1 = .ok (.istore_n 3, 1) := by decide +kernel
theorem dX6_validOf_2 : decode cX6_validOf 2 = .ok (.iconst 0, 1) := by decide +kernel
theorem dX6_validOf_3 : decode cX6_validOf 3 = .ok (.istore 4, 2) := by decide +kernel
theorem dX6_validOf_5 : decode cX6_validOf 5 = .ok (.iload 4, 2) := by decide +kernel
theorem dX6_validOf_7 : decode cX6_validOf 7 = .ok (.aload_n 0, 1) := by decide +kernel
theorem dX6_validOf_8 : decode cX6_validOf 8 = .ok (.getfield 21, 3) := by decide +kernel
theorem dX6_validOf_11 : decode cX6_validOf 11 = .ok (.if_icmp .ge 46, 3) := by decide +kernel
theorem dX6_validOf_14 : decode cX6_validOf 14 = .ok (.aload_n 0, 1) := by decide +kernel
theorem dX6_validOf_15 : decode cX6_validOf 15 = .ok (.iload 4, 2) := by decide +kernel
theorem dX6_validOf_17 : decode cX6_validOf 17 = .ok (.invokevirtual 113, 3) := by decide +kernel
theorem dX6_validOf_20 : decode cX6_validOf 20 = .ok (.astore 5, 2) := by decide +kernel
theorem dX6_validOf_22 : decode cX6_validOf 22 = .ok (.aload 5, 2) := by decide +kernel
theorem dX6_validOf_24 : decode cX6_validOf 24 = .ok (.ifnull 27, 3) := by decide +kernel
theorem dX6_validOf_27 : decode cX6_validOf 27 = .ok (.aload 5, 2) := by decide +kernel
theorem dX6_validOf_29 : decode cX6_validOf 29 = .ok (.getfield 117, 3) := by decide +kernel
theorem dX6_validOf_32 : decode cX6_validOf 32 = .ok (.aload_n 1, 1) := by decide +kernel
theorem dX6_validOf_33 : decode cX6_validOf 33 = .ok (.getfield 120, 3) := by decide +kernel
theorem dX6_validOf_36 : decode cX6_validOf 36 = .ok (.if_icmp .ne 15, 3) := by decide +kernel
theorem dX6_validOf_39 : decode cX6_validOf 39 = .ok (.aload 5, 2) := by decide +kernel
theorem dX6_validOf_41 : decode cX6_validOf 41 = .ok (.iload_n 2, 1) := by decide +kernel
theorem dX6_validOf_42 : decode cX6_validOf 42 = .ok (.invokevirtual 125, 3) := by decide +kernel
theorem dX6_validOf_45 : decode cX6_validOf 45 = .ok (.ifCond .eq 6, 3) := by decide +kernel
theorem dX6_validOf_48 : decode cX6_validOf 48 = .ok (.iinc 3 1, 3) := by decide +kernel
theorem dX6_validOf_51 : decode cX6_validOf 51 = .ok (.iinc 4 1, 3) := by decide +kernel
theorem dX6_validOf_54 : decode cX6_validOf 54 = .ok (.goto (-49), 3) := by decide +kernel
theorem dX6_validOf_57 : decode cX6_validOf 57 = .ok (.iload_n 3, 1) := by decide +kernel
theorem dX6_validOf_58 : decode cX6_validOf 58 = .ok (.ireturn, 1) := by decide +kernel
theorem dX6_countEnds_0 : decode cX6_countEnds 0 = .ok (.iconst 0, 1) := by decide +kernel
theorem dX6_countEnds_1 : decode cX6_countEnds 1 = .ok (.istore_n 3, 1) := by decide +kernel
theorem dX6_countEnds_2 : decode cX6_countEnds 2 = .ok (.iconst 0, 1) := by decide +kernel
theorem dX6_countEnds_3 : decode cX6_countEnds 3 = .ok (.istore 4, 2) := by decide +kernel
theorem dX6_countEnds_5 : decode cX6_countEnds 5 = .ok (.iload 4, 2) := by decide +kernel
theorem dX6_countEnds_7 : decode cX6_countEnds 7 = .ok (.aload_n 0, 1) := by decide +kernel
theorem dX6_countEnds_8 : decode cX6_countEnds 8 = .ok (.getfield 21, 3) := by decide +kernel
theorem dX6_countEnds_11 : decode cX6_countEnds 11 = .ok (.if_icmp .ge 43, 3) := by decide +kernel
theorem dX6_countEnds_14 : decode cX6_countEnds 14 = .ok (.aload_n 0, 1) := by decide +kernel
theorem dX6_countEnds_15 : decode cX6_countEnds 15 = .ok (.iload 4, 2) := by decide +kernel
theorem dX6_countEnds_17 : decode cX6_countEnds 17 = .ok (.invokevirtual 113, 3) := by decide +kernel
theorem dX6_countEnds_20 : decode cX6_countEnds 20 = .ok (.astore 5, 2) := by decide +kernel
theorem dX6_countEnds_22 : decode cX6_countEnds 22 = .ok (.aload 5, 2) := by decide +kernel
theorem dX6_countEnds_24 : decode cX6_countEnds 24 = .ok (.ifnull 24, 3) := by decide +kernel
theorem dX6_countEnds_27 : decode cX6_countEnds 27 = .ok (.aload 5, 2) := by decide +kernel
theorem dX6_countEnds_29 : decode cX6_countEnds 29 = .ok (.getfield 129, 3) := by decide +kernel
theorem dX6_countEnds_32 : decode cX6_countEnds 32 = .ok (.iload_n 1, 1) := by decide +kernel
theorem dX6_countEnds_33 : decode cX6_countEnds 33 = .ok (.if_icmp .lt 15, 3) := by decide +kernel
theorem dX6_countEnds_36 : decode cX6_countEnds 36 = .ok (.aload 5, 2) := by decide +kernel
theorem dX6_countEnds_38 : decode cX6_countEnds 38 = .ok (.getfield 129, 3) := by decide +kernel
theorem dX6_countEnds_41 : decode cX6_countEnds 41 = .ok (.iload_n 2, 1) := by decide +kernel
theorem dX6_countEnds_42 : decode cX6_countEnds 42 = .ok (.if_icmp .gt 6, 3) := by decide +kernel
theorem dX6_countEnds_45 : decode cX6_countEnds 45 = .ok (.iinc 3 1, 3) := by decide +kernel
theorem dX6_countEnds_48 : decode cX6_countEnds 48 = .ok (.iinc 4 1, 3) := by decide +kernel
theorem dX6_countEnds_51 : decode cX6_countEnds 51 = .ok (.goto (-46), 3) := by decide +kernel
theorem dX6_countEnds_54 : decode cX6_countEnds 54 = .ok (.iload_n 3, 1) := by decide +kernel
theorem dX6_countEnds_55 : decode cX6_countEnds 55 = .ok (.ireturn, 1) := by decide +kernel
theorem dX6_countAhead_0 : decode cX6_countAhead 0 = .ok (.aload_n 1, 1) := by decide +kernel
theorem dX6_countAhead_1 : decode cX6_countAhead 1 = .ok (.invokestatic 132, 3) := by decide +kernel
theorem dX6_countAhead_4 : decode cX6_countAhead 4 = .ok (.iconst (-1), 1) := by decide +kernel
theorem dX6_countAhead_5 : decode cX6_countAhead 5 = .ok (.if_icmp .ne 5, 3) := by decide +kernel
theorem dX6_countAhead_8 : decode cX6_countAhead 8 = .ok (.iconst (-1), 1) := by decide +kernel
theorem dX6_countAhead_9 : decode cX6_countAhead 9 = .ok (.ireturn, 1) := by decide +kernel
theorem dX6_countAhead_10 : decode cX6_countAhead 10 = .ok (.iconst 0, 1) := by decide +kernel
theorem dX6_countAhead_11 : decode cX6_countAhead 11 = .ok (.istore_n 2, 1) := by decide +kernel
theorem dX6_countAhead_12 : decode cX6_countAhead 12 = .ok (.iconst 0, 1) := by decide +kernel
theorem dX6_countAhead_13 : decode cX6_countAhead 13 = .ok (.istore_n 3, 1) := by decide +kernel
theorem dX6_countAhead_14 : decode cX6_countAhead 14 = .ok (.iload_n 3, 1) := by decide +kernel
theorem dX6_countAhead_15 : decode cX6_countAhead 15 = .ok (.aload_n 0, 1) := by decide +kernel
theorem dX6_countAhead_16 : decode cX6_countAhead 16 = .ok (.getfield 12, 3) := by decide +kernel
theorem dX6_countAhead_19 : decode cX6_countAhead 19 = .ok (.invokevirtual 68, 3) := by decide +kernel
theorem dX6_countAhead_22 : decode cX6_countAhead 22 = .ok (.if_icmp .ge 47, 3) := by decide +kernel
theorem dX6_countAhead_25 : decode cX6_countAhead 25 = .ok (.aload_n 0, 1) := by decide +kernel
theorem dX6_countAhead_26 : decode cX6_countAhead 26 = .ok (.getfield 12, 3) := by decide +kernel
theorem dX6_countAhead_29 : decode cX6_countAhead 29 = .ok (.iload_n 3, 1) := by decide +kernel
theorem dX6_countAhead_30 : decode cX6_countAhead 30 = .ok (.invokevirtual 72, 3) := by decide +kernel
theorem dX6_countAhead_33 : decode cX6_countAhead 33 = .ok (.checkcast 76, 3) := by decide +kernel
theorem dX6_countAhead_36 : decode cX6_countAhead 36 = .ok (.astore 4, 2) := by decide +kernel
theorem dX6_countAhead_38 : decode cX6_countAhead 38 = .ok (.aload 4, 2) := by decide +kernel
theorem dX6_countAhead_40 : decode cX6_countAhead 40 = .ok (.getfield 106, 3) := by decide +kernel
theorem dX6_countAhead_43 : decode cX6_countAhead 43 = .ok (.aload_n 1, 1) := by decide +kernel
theorem dX6_countAhead_44 : decode cX6_countAhead 44 = .ok (.getfield 106, 3) := by decide +kernel
theorem dX6_countAhead_47 : decode cX6_countAhead 47 = .ok (.if_icmp .ne 16, 3) := by decide +kernel
theorem dX6_countAhead_50 : decode cX6_countAhead 50 = .ok (.aload_n 0, 1) := by decide +kernel
theorem dX6_countAhead_51 : decode cX6_countAhead 51 = .ok (.aload 4, 2) := by decide +kernel
theorem dX6_countAhead_53 : decode cX6_countAhead 53 = .ok (.aload_n 1, 1) := by decide +kernel
theorem dX6_countAhead_54 : decode cX6_countAhead 54 = .ok (.invokevirtual 136, 3) := by decide +kernel
theorem dX6_countAhead_57 : decode cX6_countAhead 57 = .ok (.ifCond .eq 6, 3) := by decide +kernel
theorem dX6_countAhead_60 : decode cX6_countAhead 60 = .ok (.iinc 2 1, 3) := by decide +kernel
theorem dX6_countAhead_63 : decode cX6_countAhead 63 = .ok (.iinc 3 1, 3) := by decide +kernel
theorem dX6_countAhead_66 : decode cX6_countAhead 66 = .ok (.goto (-52), 3) := by decide +kernel
theorem dX6_countAhead_69 : decode cX6_countAhead 69 = .ok (.iload_n 2, 1) := by decide +kernel
theorem dX6_countAhead_70 : decode cX6_countAhead 70 = .ok (.ireturn, 1) := by decide +kernel
theorem dX6_deskOf_0 : decode cX6_deskOf 0 = .ok (.iconst 0, 1) := by decide +kernel
theorem dX6_deskOf_1 : decode cX6_deskOf 1 = .ok (.istore_n 1, 1) := by decide +kernel
theorem dX6_deskOf_2 : decode cX6_deskOf 2 = .ok (.iload_n 1, 1) := by decide +kernel
theorem dX6_deskOf_3 : decode cX6_deskOf 3 = .ok (.iconst 4, 1) := by decide +kernel
theorem dX6_deskOf_4 : decode cX6_deskOf 4 = .ok (.if_icmp .ge 23, 3) := by decide +kernel
theorem dX6_deskOf_7 : decode cX6_deskOf 7 = .ok (.getstatic 142, 3) := by decide +kernel
theorem dX6_deskOf_10 : decode cX6_deskOf 10 = .ok (.iload_n 1, 1) := by decide +kernel
theorem dX6_deskOf_11 : decode cX6_deskOf 11 = .ok (.iaload, 1) := by decide +kernel
theorem dX6_deskOf_12 : decode cX6_deskOf 12 = .ok (.aload_n 0, 1) := by decide +kernel
theorem dX6_deskOf_13 : decode cX6_deskOf 13 = .ok (.getfield 106, 3) := by decide +kernel
theorem dX6_deskOf_16 : decode cX6_deskOf 16 = .ok (.if_icmp .ne 5, 3) := by decide +kernel
theorem dX6_deskOf_19 : decode cX6_deskOf 19 = .ok (.iload_n 1, 1) := by decide +kernel
theorem dX6_deskOf_20 : decode cX6_deskOf 20 = .ok (.ireturn, 1) := by decide +kernel
theorem dX6_deskOf_21 : decode cX6_deskOf 21 = .ok (.iinc 1 1, 3) := by decide +kernel
theorem dX6_deskOf_24 : decode cX6_deskOf 24 = .ok (.goto (-22), 3) := by decide +kernel
theorem dX6_deskOf_27 : decode cX6_deskOf 27 = .ok (.iconst (-1), 1) := by decide +kernel
theorem dX6_deskOf_28 : decode cX6_deskOf 28 = .ok (.ireturn, 1) := by decide +kernel
theorem dX6_isAhead_0 : decode cX6_isAhead 0 = .ok (.aload_n 1, 1) := by decide +kernel
theorem dX6_isAhead_1 : decode cX6_isAhead 1 = .ok (.getfield 146, 3) := by decide +kernel
theorem dX6_isAhead_4 : decode cX6_isAhead 4 = .ok (.aload_n 2, 1) := by decide +kernel
theorem dX6_isAhead_5 : decode cX6_isAhead 5 = .ok (.getfield 146, 3) := by decide +kernel
theorem dX6_isAhead_8 : decode cX6_isAhead 8 = .ok (.if_icmp .eq 8, 3) := by decide +kernel
theorem dX6_isAhead_11 : decode cX6_isAhead 11 = .ok (.aload_n 1, 1) := by decide +kernel
theorem dX6_isAhead_12 : decode cX6_isAhead 12 = .ok (.getfield 146, 3) := by decide +kernel
theorem dX6_isAhead_15 : decode cX6_isAhead 15 = .ok (.ireturn, 1) := by decide +kernel
theorem dX6_isAhead_16 : decode cX6_isAhead 16 = .ok (.aload_n 0, 1) := by decide +kernel
theorem dX6_isAhead_17 : decode cX6_isAhead 17 = .ok (.getfield 28, 3) := by decide +kernel
theorem dX6_isAhead_20 : decode cX6_isAhead 20 = .ok (.iconst 2, 1) := by decide +kernel
theorem dX6_isAhead_21 : decode cX6_isAhead 21 = .ok (.if_icmp .ne 19, 3) := by decide +kernel
theorem dX6_isAhead_24 : decode cX6_isAhead 24 = .ok (.aload_n 1, 1) := by decide +kernel
theorem dX6_isAhead_25 : decode cX6_isAhead 25 = .ok (.invokevirtual 150, 3) := by decide +kernel
theorem dX6_isAhead_28 : decode cX6_isAhead 28 = .ok (.aload_n 2, 1) := by decide +kernel
theorem dX6_isAhead_29 : decode cX6_isAhead 29 = .ok (.invokevirtual 150, 3) := by decide +kernel
theorem dX6_isAhead_32 : decode cX6_isAhead 32 = .ok (.if_icmp .eq 8, 3) := by decide +kernel
theorem dX6_isAhead_35 : decode cX6_isAhead 35 = .ok (.aload_n 1, 1) := by decide +kernel
theorem dX6_isAhead_36 : decode cX6_isAhead 36 = .ok (.invokevirtual 150, 3) := by decide +kernel
theorem dX6_isAhead_39 : decode cX6_isAhead 39 = .ok (.ireturn, 1) := by decide +kernel
theorem dX6_isAhead_40 : decode cX6_isAhead 40 = .ok (.aload_n 0, 1) := by decide +kernel
theorem dX6_isAhead_41 : decode cX6_isAhead 41 = .ok (.getfield 28, 3) := by decide +kernel
theorem dX6_isAhead_44 : decode cX6_isAhead 44 = .ok (.ifCond .ne 10, 3) := by decide +kernel
theorem dX6_isAhead_47 : decode cX6_isAhead 47 = .ok (.aload_n 1, 1) := by decide +kernel
theorem dX6_isAhead_48 : decode cX6_isAhead 48 = .ok (.getfield 153, 3) := by decide +kernel
theorem dX6_isAhead_51 : decode cX6_isAhead 51 = .ok (.goto 7, 3) := by decide +kernel
theorem dX6_isAhead_54 : decode cX6_isAhead 54 = .ok (.aload_n 1, 1) := by decide +kernel
theorem dX6_isAhead_55 : decode cX6_isAhead 55 = .ok (.getfield 156, 3) := by decide +kernel
theorem dX6_isAhead_58 : decode cX6_isAhead 58 = .ok (.istore_n 3, 1) := by decide +kernel
theorem dX6_isAhead_59 : decode cX6_isAhead 59 = .ok (.aload_n 0, 1) := by decide +kernel
theorem dX6_isAhead_60 : decode cX6_isAhead 60 = .ok (.getfield 28, 3) := by decide +kernel
theorem dX6_isAhead_63 : decode cX6_isAhead 63 = .ok (.ifCond .ne 10, 3) := by decide +kernel
theorem dX6_isAhead_66 : decode cX6_isAhead 66 = .ok (.aload_n 2, 1) := by decide +kernel
theorem dX6_isAhead_67 : decode cX6_isAhead 67 = .ok (.getfield 153, 3) := by decide +kernel
theorem dX6_isAhead_70 : decode cX6_isAhead 70 = .ok (.goto 7, 3) := by decide +kernel
theorem dX6_isAhead_73 : decode cX6_isAhead 73 = .ok (.aload_n 2, 1) := by decide +kernel
theorem dX6_isAhead_74 : decode cX6_isAhead 74 = .ok (.getfield 156, 3) := by decide +kernel
theorem dX6_isAhead_77 : decode cX6_isAhead 77 = .ok (.istore 4, 2) := by decide +kernel
theorem dX6_isAhead_79 : decode cX6_isAhead 79 = .ok (.iload_n 3, 1) := by decide +kernel
theorem dX6_isAhead_80 : decode cX6_isAhead 80 = .ok (.iload 4, 2) := by decide +kernel
theorem dX6_isAhead_82 : decode cX6_isAhead 82 = .ok (.if_icmp .ne 22, 3) := by decide +kernel
theorem dX6_isAhead_85 : decode cX6_isAhead 85 = .ok (.aload_n 1, 1) := by decide +kernel
theorem dX6_isAhead_86 : decode cX6_isAhead 86 = .ok (.getfield 159, 3) := by decide +kernel
theorem dX6_isAhead_89 : decode cX6_isAhead 89 = .ok (.aload_n 2, 1) := by decide +kernel
theorem dX6_isAhead_90 : decode cX6_isAhead 90 = .ok (.getfield 159, 3) := by decide +kernel
theorem dX6_isAhead_93 : decode cX6_isAhead 93 = .ok (.if_icmp .ge 7, 3) := by decide +kernel
theorem dX6_isAhead_96 : decode cX6_isAhead 96 = .ok (.iconst 1, 1) := by decide +kernel
theorem dX6_isAhead_97 : decode cX6_isAhead 97 = .ok (.goto 18, 3) := by decide +kernel
theorem dX6_isAhead_100 : decode cX6_isAhead 100 = .ok (.iconst 0, 1) := by decide +kernel
theorem dX6_isAhead_101 : decode cX6_isAhead 101 = .ok (.goto 14, 3) := by decide +kernel
theorem dX6_isAhead_104 : decode cX6_isAhead 104 = .ok (.iload_n 3, 1) := by decide +kernel
theorem dX6_isAhead_105 : decode cX6_isAhead 105 = .ok (.iload 4, 2) := by decide +kernel
theorem dX6_isAhead_107 : decode cX6_isAhead 107 = .ok (.if_icmp .ge 7, 3) := by decide +kernel
theorem dX6_isAhead_110 : decode cX6_isAhead 110 = .ok (.iconst 1, 1) := by decide +kernel
theorem dX6_isAhead_111 : decode cX6_isAhead 111 = .ok (.goto 4, 3) := by decide +kernel
theorem dX6_isAhead_114 : decode cX6_isAhead 114 = .ok (.iconst 0, 1) := by decide +kernel
theorem dX6_isAhead_115 : decode cX6_isAhead 115 = .ok (.ireturn, 1) := by decide +kernel
theorem dX6_firstIn_0 : decode cX6_firstIn 0 = .ok (.aconst_null, 1) := by decide +kernel
theorem dX6_firstIn_1 : decode cX6_firstIn 1 = .ok (.astore_n 2, 1) := by decide +kernel
theorem dX6_firstIn_2 : decode cX6_firstIn 2 = .ok (.iconst 0, 1) := by decide +kernel
theorem dX6_firstIn_3 : decode cX6_firstIn 3 = .ok (.istore_n 3, 1) := by decide +kernel
theorem dX6_firstIn_4 : decode cX6_firstIn 4 = .ok (.iload_n 3, 1) := by decide +kernel
theorem dX6_firstIn_5 : decode cX6_firstIn 5 = .ok (.aload_n 0, 1) := by decide +kernel
theorem dX6_firstIn_6 : decode cX6_firstIn 6 = .ok (.getfield 12, 3) := by decide +kernel
theorem dX6_firstIn_9 : decode cX6_firstIn 9 = .ok (.invokevirtual 68, 3) := by decide +kernel
theorem dX6_firstIn_12 : decode cX6_firstIn 12 = .ok (.if_icmp .ge 48, 3) := by decide +kernel
theorem dX6_firstIn_15 : decode cX6_firstIn 15 = .ok (.aload_n 0, 1) := by decide +kernel
theorem dX6_firstIn_16 : decode cX6_firstIn 16 = .ok (.getfield 12, 3) := by decide +kernel
theorem dX6_firstIn_19 : decode cX6_firstIn 19 = .ok (.iload_n 3, 1) := by decide +kernel
theorem dX6_firstIn_20 : decode cX6_firstIn 20 = .ok (.invokevirtual 72, 3) := by decide +kernel
theorem dX6_firstIn_23 : decode cX6_firstIn 23 = .ok (.checkcast 76, 3) := by decide +kernel
theorem dX6_firstIn_26 : decode cX6_firstIn 26 = .ok (.astore 4, 2) := by decide +kernel
theorem dX6_firstIn_28 : decode cX6_firstIn 28 = .ok (.aload 4, 2) := by decide +kernel
theorem dX6_firstIn_30 : decode cX6_firstIn 30 = .ok (.getfield 106, 3) := by decide +kernel
theorem dX6_firstIn_33 : decode cX6_firstIn 33 = .ok (.iload_n 1, 1) := by decide +kernel
theorem dX6_firstIn_34 : decode cX6_firstIn 34 = .ok (.if_icmp .ne 20, 3) := by decide +kernel
theorem dX6_firstIn_37 : decode cX6_firstIn 37 = .ok (.aload_n 2, 1) := by decide +kernel
theorem dX6_firstIn_38 : decode cX6_firstIn 38 = .ok (.ifnull 13, 3) := by decide +kernel
theorem dX6_firstIn_41 : decode cX6_firstIn 41 = .ok (.aload_n 0, 1) := by decide +kernel
theorem dX6_firstIn_42 : decode cX6_firstIn 42 = .ok (.aload 4, 2) := by decide +kernel
theorem dX6_firstIn_44 : decode cX6_firstIn 44 = .ok (.aload_n 2, 1) := by decide +kernel
theorem dX6_firstIn_45 : decode cX6_firstIn 45 = .ok (.invokevirtual 136, 3) := by decide +kernel
theorem dX6_firstIn_48 : decode cX6_firstIn 48 = .ok (.ifCond .eq 6, 3) := by decide +kernel
theorem dX6_firstIn_51 : decode cX6_firstIn 51 = .ok (.aload 4, 2) := by decide +kernel
theorem dX6_firstIn_53 : decode cX6_firstIn 53 = .ok (.astore_n 2, 1) := by decide +kernel
theorem dX6_firstIn_54 : decode cX6_firstIn 54 = .ok (.iinc 3 1, 3) := by decide +kernel
theorem dX6_firstIn_57 : decode cX6_firstIn 57 = .ok (.goto (-53), 3) := by decide +kernel
theorem dX6_firstIn_60 : decode cX6_firstIn 60 = .ok (.aload_n 2, 1) := by decide +kernel
theorem dX6_firstIn_61 : decode cX6_firstIn 61 = .ok (.areturn, 1) := by decide +kernel
theorem dX6_passDay_0 : decode cX6_passDay 0 = .ok (.aload_n 0, 1) := by decide +kernel
theorem dX6_passDay_1 : decode cX6_passDay 1 = .ok (.dup, 1) := by decide +kernel
theorem dX6_passDay_2 : decode cX6_passDay 2 = .ok (.getfield 25, 3) := by decide +kernel
theorem dX6_passDay_5 : decode cX6_passDay 5 = .ok (.iconst 1, 1) := by decide +kernel
theorem dX6_passDay_6 : decode cX6_passDay 6 = .ok (.iadd, 1) := by decide +kernel
theorem dX6_passDay_7 : decode cX6_passDay 7 = .ok (.putfield 25, 3) := by decide +kernel
theorem dX6_passDay_10 : decode cX6_passDay 10 = .ok (.aload_n 0, 1) := by decide +kernel
theorem dX6_passDay_11 : decode cX6_passDay 11 = .ok (.invokevirtual 160, 3) := by decide +kernel
theorem dX6_passDay_14 : decode cX6_passDay 14 = .ok (.aload_n 0, 1) := by decide +kernel
theorem dX6_passDay_15 : decode cX6_passDay 15 = .ok (.invokevirtual 163, 3) := by decide +kernel
theorem dX6_passDay_18 : decode cX6_passDay 18 = .ok (.aload_n 0, 1) := by decide +kernel
theorem dX6_passDay_19 : decode cX6_passDay 19 = .ok (.iconst 0, 1) := by decide +kernel
theorem dX6_passDay_20 : decode cX6_passDay 20 = .ok (.putfield 46, 3) := by decide +kernel
theorem dX6_passDay_23 : decode cX6_passDay 23 = .ok (.iconst 0, 1) := by decide +kernel
theorem dX6_passDay_24 : decode cX6_passDay 24 = .ok (.istore_n 1, 1) := by decide +kernel
theorem dX6_passDay_25 : decode cX6_passDay 25 = .ok (.iload_n 1, 1) := by decide +kernel
theorem dX6_passDay_26 : decode cX6_passDay 26 = .ok (.iconst 4, 1) := by decide +kernel
theorem dX6_passDay_27 : decode cX6_passDay 27 = .ok (.if_icmp .ge 23, 3) := by decide +kernel
theorem dX6_passDay_30 : decode cX6_passDay 30 = .ok (.aload_n 0, 1) := by decide +kernel
theorem dX6_passDay_31 : decode cX6_passDay 31 = .ok (.dup, 1) := by decide +kernel
theorem dX6_passDay_32 : decode cX6_passDay 32 = .ok (.getfield 46, 3) := by decide +kernel
theorem dX6_passDay_35 : decode cX6_passDay 35 = .ok (.aload_n 0, 1) := by decide +kernel
theorem dX6_passDay_36 : decode cX6_passDay 36 = .ok (.iload_n 1, 1) := by decide +kernel
theorem dX6_passDay_37 : decode cX6_passDay 37 = .ok (.invokevirtual 166, 3) := by decide +kernel
theorem dX6_passDay_40 : decode cX6_passDay 40 = .ok (.iadd, 1) := by decide +kernel
theorem dX6_passDay_41 : decode cX6_passDay 41 = .ok (.putfield 46, 3) := by decide +kernel
theorem dX6_passDay_44 : decode cX6_passDay 44 = .ok (.iinc 1 1, 3) := by decide +kernel
theorem dX6_passDay_47 : decode cX6_passDay 47 = .ok (.goto (-22), 3) := by decide +kernel
theorem dX6_passDay_50 : decode cX6_passDay 50 = .ok (.return_, 1) := by decide +kernel
theorem dX6_takePost_0 : decode cX6_takePost 0 = .ok (.iconst 0, 1) := by decide +kernel
theorem dX6_takePost_1 : decode cX6_takePost 1 = .ok (.istore_n 1, 1) := by decide +kernel
theorem dX6_takePost_2 : decode cX6_takePost 2 = .ok (.iload_n 1, 1) := by decide +kernel
theorem dX6_takePost_3 : decode cX6_takePost 3 = .ok (.aload_n 0, 1) := by decide +kernel
theorem dX6_takePost_4 : decode cX6_takePost 4 = .ok (.getfield 12, 3) := by decide +kernel
theorem dX6_takePost_7 : decode cX6_takePost 7 = .ok (.invokevirtual 68, 3) := by decide +kernel
theorem dX6_takePost_10 : decode cX6_takePost 10 = .ok (.if_icmp .ge 46, 3) := by decide +kernel
theorem dX6_takePost_13 : decode cX6_takePost 13 = .ok (.aload_n 0, 1) := by decide +kernel
theorem dX6_takePost_14 : decode cX6_takePost 14 = .ok (.getfield 12, 3) := by decide +kernel
theorem dX6_takePost_17 : decode cX6_takePost 17 = .ok (.iload_n 1, 1) := by decide +kernel
theorem dX6_takePost_18 : decode cX6_takePost 18 = .ok (.invokevirtual 72, 3) := by decide +kernel
theorem dX6_takePost_21 : decode cX6_takePost 21 = .ok (.checkcast 76, 3) := by decide +kernel
theorem dX6_takePost_24 : decode cX6_takePost 24 = .ok (.astore_n 2, 1) := by decide +kernel
theorem dX6_takePost_25 : decode cX6_takePost 25 = .ok (.aload_n 2, 1) := by decide +kernel
theorem dX6_takePost_26 : decode cX6_takePost 26 = .ok (.getfield 106, 3) := by decide +kernel
theorem dX6_takePost_29 : decode cX6_takePost 29 = .ok (.bipush 6, 2) := by decide +kernel
theorem dX6_takePost_31 : decode cX6_takePost 31 = .ok (.if_icmp .ne 19, 3) := by decide +kernel
theorem dX6_takePost_34 : decode cX6_takePost 34 = .ok (.aload_n 2, 1) := by decide +kernel
theorem dX6_takePost_35 : decode cX6_takePost 35 = .ok (.getfield 170, 3) := by decide +kernel
theorem dX6_takePost_38 : decode cX6_takePost 38 = .ok (.aload_n 0, 1) := by decide +kernel
theorem dX6_takePost_39 : decode cX6_takePost 39 = .ok (.getfield 25, 3) := by decide +kernel
theorem dX6_takePost_42 : decode cX6_takePost 42 = .ok (.if_icmp .gt 8, 3) := by decide +kernel
theorem dX6_takePost_45 : decode cX6_takePost 45 = .ok (.aload_n 0, 1) := by decide +kernel
theorem dX6_takePost_46 : decode cX6_takePost 46 = .ok (.aload_n 2, 1) := by decide +kernel
theorem dX6_takePost_47 : decode cX6_takePost 47 = .ok (.invokevirtual 173, 3) := by decide +kernel
theorem dX6_takePost_50 : decode cX6_takePost 50 = .ok (.iinc 1 1, 3) := by decide +kernel
theorem dX6_takePost_53 : decode cX6_takePost 53 = .ok (.goto (-51), 3) := by decide +kernel
theorem dX6_takePost_56 : decode cX6_takePost 56 = .ok (.return_, 1) := by decide +kernel
theorem dX6_countCalls_0 : decode cX6_countCalls 0 = .ok (.iconst 0, 1) := by decide +kernel
theorem dX6_countCalls_1 : decode cX6_countCalls 1 = .ok (.istore_n 1, 1) := by decide +kernel
theorem dX6_countCalls_2 : decode cX6_countCalls 2 = .ok (.iconst 0, 1) := by decide +kernel
theorem dX6_countCalls_3 : decode cX6_countCalls 3 = .ok (.istore_n 2, 1) := by decide +kernel
theorem dX6_countCalls_4 : decode cX6_countCalls 4 = .ok (.iload_n 2, 1) := by decide +kernel
theorem dX6_countCalls_5 : decode cX6_countCalls 5 = .ok (.aload_n 0, 1) := by decide +kernel
theorem dX6_countCalls_6 : decode cX6_countCalls 6 = .ok (.getfield 12, 3) := by decide +kernel
theorem dX6_countCalls_9 : decode cX6_countCalls 9 = .ok (.invokevirtual 68, 3) := by decide +kernel
theorem dX6_countCalls_12 : decode cX6_countCalls 12 = .ok (.if_icmp .ge 50, 3) := by decide +kernel
theorem dX6_countCalls_15 : decode cX6_countCalls 15 = .ok (.aload_n 0, 1) := by decide +kernel
theorem dX6_countCalls_16 : decode cX6_countCalls 16 = .ok (.getfield 12, 3) := by decide +kernel
theorem dX6_countCalls_19 : decode cX6_countCalls 19 = .ok (.iload_n 2, 1) := by decide +kernel
theorem dX6_countCalls_20 : decode cX6_countCalls 20 = .ok (.invokevirtual 72, 3) := by decide +kernel
theorem dX6_countCalls_23 : decode cX6_countCalls 23 = .ok (.checkcast 76, 3) := by decide +kernel
theorem dX6_countCalls_26 : decode cX6_countCalls 26 = .ok (.astore_n 3, 1) := by decide +kernel
theorem dX6_countCalls_27 : decode cX6_countCalls 27 = .ok (.aload_n 3, 1) := by decide +kernel
theorem dX6_countCalls_28 : decode cX6_countCalls 28 = .ok (.invokevirtual 109, 3) := by decide +kernel
theorem dX6_countCalls_31 : decode cX6_countCalls 31 = .ok (.ifCond .eq 25, 3) := by decide +kernel
theorem dX6_countCalls_34 : decode cX6_countCalls 34 = .ok (.aload_n 0, 1) := by decide +kernel
theorem dX6_countCalls_35 : decode cX6_countCalls 35 = .ok (.getfield 25, 3) := by decide +kernel
theorem dX6_countCalls_38 : decode cX6_countCalls 38 = .ok (.aload_n 3, 1) := by decide +kernel
theorem dX6_countCalls_39 : decode cX6_countCalls 39 = .ok (.getfield 153, 3) := by decide +kernel
theorem dX6_countCalls_42 : decode cX6_countCalls 42 = .ok (.isub, 1) := by decide +kernel
theorem dX6_countCalls_43 : decode cX6_countCalls 43 = .ok (.aload_n 0, 1) := by decide +kernel
theorem dX6_countCalls_44 : decode cX6_countCalls 44 = .ok (.getfield 57, 3) := by decide +kernel
theorem dX6_countCalls_47 : decode cX6_countCalls 47 = .ok (.getfield 176, 3) := by decide +kernel
theorem dX6_countCalls_50 : decode cX6_countCalls 50 = .ok (.if_icmp .le 6, 3) := by decide +kernel
theorem dX6_countCalls_53 : decode cX6_countCalls 53 = .ok (.iinc 1 1, 3) := by decide +kernel
theorem dX6_countCalls_56 : decode cX6_countCalls 56 = .ok (.iinc 2 1, 3) := by decide +kernel
theorem dX6_countCalls_59 : decode cX6_countCalls 59 = .ok (.goto (-55), 3) := by decide +kernel
theorem dX6_countCalls_62 : decode cX6_countCalls 62 = .ok (.aload_n 0, 1) := by decide +kernel
theorem dX6_countCalls_63 : decode cX6_countCalls 63 = .ok (.iload_n 1, 1) := by decide +kernel
theorem dX6_countCalls_64 : decode cX6_countCalls 64 = .ok (.iconst 3, 1) := by decide +kernel
theorem dX6_countCalls_65 : decode cX6_countCalls 65 = .ok (.idiv, 1) := by decide +kernel
theorem dX6_countCalls_66 : decode cX6_countCalls 66 = .ok (.putfield 40, 3) := by decide +kernel
theorem dX6_countCalls_69 : decode cX6_countCalls 69 = .ok (.aload_n 0, 1) := by decide +kernel
theorem dX6_countCalls_70 : decode cX6_countCalls 70 = .ok (.dup, 1) := by decide +kernel
theorem dX6_countCalls_71 : decode cX6_countCalls 71 = .ok (.getfield 43, 3) := by decide +kernel
theorem dX6_countCalls_74 : decode cX6_countCalls 74 = .ok (.aload_n 0, 1) := by decide +kernel
theorem dX6_countCalls_75 : decode cX6_countCalls 75 = .ok (.getfield 40, 3) := by decide +kernel
theorem dX6_countCalls_78 : decode cX6_countCalls 78 = .ok (.iadd, 1) := by decide +kernel
theorem dX6_countCalls_79 : decode cX6_countCalls 79 = .ok (.putfield 43, 3) := by decide +kernel
theorem dX6_countCalls_82 : decode cX6_countCalls 82 = .ok (.return_, 1) := by decide +kernel
theorem dX6_workAt_0 : decode cX6_workAt 0 = .ok (.iload_n 1, 1) := by decide +kernel
theorem dX6_workAt_1 : decode cX6_workAt 1 = .ok (.ifCond .lt 8, 3) := by decide +kernel
theorem dX6_workAt_4 : decode cX6_workAt 4 = .ok (.iload_n 1, 1) := by decide +kernel
theorem dX6_workAt_5 : decode cX6_workAt 5 = .ok (.iconst 4, 1) := by decide +kernel
theorem dX6_workAt_6 : decode cX6_workAt 6 = .ok (.if_icmp .lt 5, 3) := by decide +kernel
theorem dX6_workAt_9 : decode cX6_workAt 9 = .ok (.iconst 0, 1) := by decide +kernel
theorem dX6_workAt_10 : decode cX6_workAt 10 = .ok (.ireturn, 1) := by decide +kernel
theorem dX6_workAt_11 : decode cX6_workAt 11 = .ok (.aload_n 0, 1) := by decide +kernel
theorem dX6_workAt_12 : decode cX6_workAt 12 = .ok (.getfield 53, 3) := by decide +kernel
theorem dX6_workAt_15 : decode cX6_workAt 15 = .ok (.iload_n 1, 1) := by decide +kernel
theorem dX6_workAt_16 : decode cX6_workAt 16 = .ok (.aload_n 0, 1) := by decide +kernel
theorem dX6_workAt_17 : decode cX6_workAt 17 = .ok (.getfield 25, 3) := by decide +kernel
theorem dX6_workAt_20 : decode cX6_workAt 20 = .ok (.invokevirtual 181, 3) := by decide +kernel
theorem dX6_workAt_23 : decode cX6_workAt 23 = .ok (.istore_n 2, 1) := by decide +kernel
theorem dX6_workAt_24 : decode cX6_workAt 24 = .ok (.iload_n 1, 1) := by decide +kernel
theorem dX6_workAt_25 : decode cX6_workAt 25 = .ok (.ifCond .ne 14, 3) := by decide +kernel
theorem dX6_workAt_28 : decode cX6_workAt 28 = .ok (.iconst 0, 1) := by decide +kernel
theorem dX6_workAt_29 : decode cX6_workAt 29 = .ok (.iload_n 2, 1) := by decide +kernel
theorem dX6_workAt_30 : decode cX6_workAt 30 = .ok (.aload_n 0, 1) := by decide +kernel
theorem dX6_workAt_31 : decode cX6_workAt 31 = .ok (.getfield 40, 3) := by decide +kernel
theorem dX6_workAt_34 : decode cX6_workAt 34 = .ok (.isub, 1) := by decide +kernel
theorem dX6_workAt_35 : decode cX6_workAt 35 = .ok (.invokestatic 184, 3) := by decide +kernel
theorem dX6_workAt_38 : decode cX6_workAt 38 = .ok (.istore_n 2, 1) := by decide +kernel
theorem dX6_workAt_39 : decode cX6_workAt 39 = .ok (.iconst 0, 1) := by decide +kernel
theorem dX6_workAt_40 : decode cX6_workAt 40 = .ok (.istore_n 3, 1) := by decide +kernel
theorem dX6_workAt_41 : decode cX6_workAt 41 = .ok (.iload_n 3, 1) := by decide +kernel
theorem dX6_workAt_42 : decode cX6_workAt 42 = .ok (.aload_n 0, 1) := by decide +kernel
theorem dX6_workAt_43 : decode cX6_workAt 43 = .ok (.getfield 12, 3) := by decide +kernel
theorem dX6_workAt_46 : decode cX6_workAt 46 = .ok (.invokevirtual 68, 3) := by decide +kernel
theorem dX6_workAt_49 : decode cX6_workAt 49 = .ok (.if_icmp .ge 69, 3) := by decide +kernel
theorem dX6_workAt_52 : decode cX6_workAt 52 = .ok (.aload_n 0, 1) := by decide +kernel
theorem dX6_workAt_53 : decode cX6_workAt 53 = .ok (.getstatic 142, 3) := by decide +kernel
theorem dX6_workAt_56 : decode cX6_workAt 56 = .ok (.iload_n 1, 1) := by decide +kernel
theorem dX6_workAt_57 : decode cX6_workAt 57 = .ok (.iaload, 1) := by decide +kernel
theorem dX6_workAt_58 : decode cX6_workAt 58 = .ok (.invokevirtual 187, 3) := by decide +kernel
theorem dX6_workAt_61 : decode cX6_workAt 61 = .ok (.astore 4, 2) := by decide +kernel
theorem dX6_workAt_63 : decode cX6_workAt 63 = .ok (.aload 4, 2) := by decide +kernel
theorem dX6_workAt_65 : decode cX6_workAt 65 = .ok (.ifnull 53, 3) := by decide +kernel
theorem dX6_workAt_68 : decode cX6_workAt 68 = .ok (.iload_n 1, 1) := by decide +kernel
theorem dX6_workAt_69 : decode cX6_workAt 69 = .ok (.aload 4, 2) := by decide +kernel
theorem dX6_workAt_71 : decode cX6_workAt 71 = .ok (.invokestatic 191, 3) := by decide +kernel
theorem dX6_workAt_74 : decode cX6_workAt 74 = .ok (.iload_n 2, 1) := by decide +kernel
theorem dX6_workAt_75 : decode cX6_workAt 75 = .ok (.if_icmp .le 6, 3) := by decide +kernel
theorem dX6_workAt_78 : decode cX6_workAt 78 = .ok (.goto 40, 3) := by decide +kernel
theorem dX6_workAt_81 : decode cX6_workAt 81 = .ok (.iload_n 1, 1) := by decide +kernel
theorem dX6_workAt_82 : decode cX6_workAt 82 = .ok (.iconst 3, 1) := by decide +kernel
theorem dX6_workAt_83 : decode cX6_workAt 83 = .ok (.if_icmp .ne 13, 3) := by decide +kernel
theorem dX6_workAt_86 : decode cX6_workAt 86 = .ok (.aload_n 0, 1) := by decide +kernel
theorem dX6_workAt_87 : decode cX6_workAt 87 = .ok (.invokevirtual 195, 3) := by decide +kernel
theorem dX6_workAt_90 : decode cX6_workAt 90 = .ok (.ifCond .ne 6, 3) := by decide +kernel
theorem dX6_workAt_93 : decode cX6_workAt 93 = .ok (.goto 25, 3) := by decide +kernel
theorem dX6_workAt_96 : decode cX6_workAt 96 = .ok (.iload_n 2, 1) := by decide +kernel
theorem dX6_workAt_97 : decode cX6_workAt 97 = .ok (.iload_n 1, 1) := by decide +kernel
theorem dX6_workAt_98 : decode cX6_workAt 98 = .ok (.aload 4, 2) := by decide +kernel
theorem dX6_workAt_100 : decode cX6_workAt 100 = .ok (.invokestatic 191, 3) := by decide +kernel
theorem dX6_workAt_103 : decode cX6_workAt 103 = .ok (.isub, 1) := by decide +kernel
theorem dX6_workAt_104 : decode cX6_workAt 104 = .ok (.istore_n 2, 1) := by decide +kernel
theorem dX6_workAt_105 : decode cX6_workAt 105 = .ok (.aload_n 0, 1) := by decide +kernel
theorem dX6_workAt_106 : decode cX6_workAt 106 = .ok (.iload_n 1, 1) := by decide +kernel
theorem dX6_workAt_107 : decode cX6_workAt 107 = .ok (.aload 4, 2) := by decide +kernel
theorem dX6_workAt_109 : decode cX6_workAt 109 = .ok (.invokevirtual 198, 3) := by decide +kernel
theorem dX6_workAt_112 : decode cX6_workAt 112 = .ok (.iinc 3 1, 3) := by decide +kernel
theorem dX6_workAt_115 : decode cX6_workAt 115 = .ok (.goto (-74), 3) := by decide +kernel
theorem dX6_workAt_118 : decode cX6_workAt 118 = .ok (.iload_n 2, 1) := by decide +kernel
theorem dX6_workAt_119 : decode cX6_workAt 119 = .ok (.ireturn, 1) := by decide +kernel
theorem dX6_unitsFor_0 : decode cX6_unitsFor 0 = .ok (.iload_n 0, 1) := by decide +kernel
theorem dX6_unitsFor_1 : decode cX6_unitsFor 1 = .ok (.ifCond .ne 17, 3) := by decide +kernel
theorem dX6_unitsFor_4 : decode cX6_unitsFor 4 = .ok (.aload_n 1, 1) := by decide +kernel
theorem dX6_unitsFor_5 : decode cX6_unitsFor 5 = .ok (.getfield 202, 3) := by decide +kernel
theorem dX6_unitsFor_8 : decode cX6_unitsFor 8 = .ok (.iconst (-1), 1) := by decide +kernel
theorem dX6_unitsFor_9 : decode cX6_unitsFor 9 = .ok (.if_icmp .ne 7, 3) := by decide +kernel
theorem dX6_unitsFor_12 : decode cX6_unitsFor 12 = .ok (.iconst 2, 1) := by decide +kernel
theorem dX6_unitsFor_13 : decode cX6_unitsFor 13 = .ok (.goto 4, 3) := by decide +kernel
theorem dX6_unitsFor_16 : decode cX6_unitsFor 16 = .ok (.iconst 1, 1) := by decide +kernel
theorem dX6_unitsFor_17 : decode cX6_unitsFor 17 = .ok (.ireturn, 1) := by decide +kernel
theorem dX6_unitsFor_18 : decode cX6_unitsFor 18 = .ok (.iload_n 0, 1) := by decide +kernel
theorem dX6_unitsFor_19 : decode cX6_unitsFor 19 = .ok (.iconst 1, 1) := by decide +kernel
theorem dX6_unitsFor_20 : decode cX6_unitsFor 20 = .ok (.if_icmp .ne 13, 3) := by decide +kernel
theorem dX6_unitsFor_23 : decode cX6_unitsFor 23 = .ok (.iconst 3, 1) := by decide +kernel
theorem dX6_unitsFor_24 : decode cX6_unitsFor 24 = .ok (.aload_n 1, 1) := by decide +kernel
theorem dX6_unitsFor_25 : decode cX6_unitsFor 25 = .ok (.getfield 205, 3) := by decide +kernel
theorem dX6_unitsFor_28 : decode cX6_unitsFor 28 = .ok (.getfield 209, 3) := by decide +kernel
theorem dX6_unitsFor_31 : decode cX6_unitsFor 31 = .ok (.iadd, 1) := by decide +kernel
theorem dX6_unitsFor_32 : decode cX6_unitsFor 32 = .ok (.ireturn, 1) := by decide +kernel
theorem dX6_unitsFor_33 : decode cX6_unitsFor 33 = .ok (.iload_n 0, 1) := by decide +kernel
theorem dX6_unitsFor_34 : decode cX6_unitsFor 34 = .ok (.iconst 2, 1) := by decide +kernel
theorem dX6_unitsFor_35 : decode cX6_unitsFor 35 = .ok (.if_icmp .ne 8, 3) := by decide +kernel
theorem dX6_unitsFor_38 : decode cX6_unitsFor 38 = .ok (.bipush 6, 2) := by decide +kernel
theorem dX6_unitsFor_40 : decode cX6_unitsFor 40 = .ok (.goto 4, 3) := by decide +kernel
theorem dX6_unitsFor_43 : decode cX6_unitsFor 43 = .ok (.iconst 1, 1) := by decide +kernel
theorem dX6_unitsFor_44 : decode cX6_unitsFor 44 = .ok (.ireturn, 1) := by decide +kernel
theorem dX6_canPrint_0 : decode cX6_canPrint 0 = .ok (.aload_n 0, 1) := by decide +kernel
theorem dX6_canPrint_1 : decode cX6_canPrint 1 = .ok (.getfield 57, 3) := by decide +kernel
theorem dX6_canPrint_4 : decode cX6_canPrint 4 = .ok (.getfield 214, 3) := by decide +kernel
theorem dX6_canPrint_7 : decode cX6_canPrint 7 = .ok (.aload_n 0, 1) := by decide +kernel
theorem dX6_canPrint_8 : decode cX6_canPrint 8 = .ok (.getfield 25, 3) := by decide +kernel
theorem dX6_canPrint_11 : decode cX6_canPrint 11 = .ok (.if_icmp .gt 21, 3) := by decide +kernel
theorem dX6_canPrint_14 : decode cX6_canPrint 14 = .ok (.aload_n 0, 1) := by decide +kernel
theorem dX6_canPrint_15 : decode cX6_canPrint 15 = .ok (.getfield 25, 3) := by decide +kernel
theorem dX6_canPrint_18 : decode cX6_canPrint 18 = .ok (.aload_n 0, 1) := by decide +kernel
theorem dX6_canPrint_19 : decode cX6_canPrint 19 = .ok (.getfield 57, 3) := by decide +kernel
theorem dX6_canPrint_22 : decode cX6_canPrint 22 = .ok (.getfield 217, 3) := by decide +kernel
theorem dX6_canPrint_25 : decode cX6_canPrint 25 = .ok (.if_icmp .gt 7, 3) := by decide +kernel
theorem dX6_canPrint_28 : decode cX6_canPrint 28 = .ok (.iconst 1, 1) := by decide +kernel
theorem dX6_canPrint_29 : decode cX6_canPrint 29 = .ok (.goto 4, 3) := by decide +kernel
theorem dX6_canPrint_32 : decode cX6_canPrint 32 = .ok (.iconst 0, 1) := by decide +kernel
theorem dX6_canPrint_33 : decode cX6_canPrint 33 = .ok (.istore_n 1, 1) := by decide +kernel
theorem dX6_canPrint_34 : decode cX6_canPrint 34 = .ok (.aload_n 0, 1) := by decide +kernel
theorem dX6_canPrint_35 : decode cX6_canPrint 35 = .ok (.getfield 31, 3) := by decide +kernel
theorem dX6_canPrint_38 : decode cX6_canPrint 38 = .ok (.ifCond .le 21, 3) := by decide +kernel
theorem dX6_canPrint_41 : decode cX6_canPrint 41 = .ok (.aload_n 0, 1) := by decide +kernel
theorem dX6_canPrint_42 : decode cX6_canPrint 42 = .ok (.getfield 21, 3) := by decide +kernel
theorem dX6_canPrint_45 : decode cX6_canPrint 45 = .ok (.sipush 150, 3) := by decide +kernel
theorem dX6_canPrint_48 : decode cX6_canPrint 48 = .ok (.if_icmp .ge 11, 3) := by decide +kernel
theorem dX6_canPrint_51 : decode cX6_canPrint 51 = .ok (.iload_n 1, 1) := by decide +kernel
theorem dX6_canPrint_52 : decode cX6_canPrint 52 = .ok (.ifCond .ne 7, 3) := by decide +kernel
theorem dX6_canPrint_55 : decode cX6_canPrint 55 = .ok (.iconst 1, 1) := by decide +kernel
theorem dX6_canPrint_56 : decode cX6_canPrint 56 = .ok (.goto 4, 3) := by decide +kernel
theorem dX6_canPrint_59 : decode cX6_canPrint 59 = .ok (.iconst 0, 1) := by decide +kernel
theorem dX6_canPrint_60 : decode cX6_canPrint 60 = .ok (.ireturn, 1) := by decide +kernel
theorem dX6_serve_0 : decode cX6_serve 0 = .ok (.iload_n 1, 1) := by decide +kernel
theorem dX6_serve_1 : decode cX6_serve 1 = .ok (.ifCond .ne 11, 3) := by decide +kernel
theorem dX6_serve_4 : decode cX6_serve 4 = .ok (.aload_n 0, 1) := by decide +kernel
theorem dX6_serve_5 : decode cX6_serve 5 = .ok (.aload_n 2, 1) := by decide +kernel
theorem dX6_serve_6 : decode cX6_serve 6 = .ok (.invokevirtual 220, 3) := by decide +kernel
theorem dX6_serve_9 : decode cX6_serve 9 = .ok (.goto 34, 3) := by decide +kernel
theorem dX6_serve_12 : decode cX6_serve 12 = .ok (.iload_n 1, 1) := by decide +kernel
theorem dX6_serve_13 : decode cX6_serve 13 = .ok (.iconst 1, 1) := by decide +kernel
theorem dX6_serve_14 : decode cX6_serve 14 = .ok (.if_icmp .ne 11, 3) := by decide +kernel
theorem dX6_serve_17 : decode cX6_serve 17 = .ok (.aload_n 0, 1) := by decide +kernel
theorem dX6_serve_18 : decode cX6_serve 18 = .ok (.aload_n 2, 1) := by decide +kernel
theorem dX6_serve_19 : decode cX6_serve 19 = .ok (.invokevirtual 222, 3) := by decide +kernel
theorem dX6_serve_22 : decode cX6_serve 22 = .ok (.goto 21, 3) := by decide +kernel
theorem dX6_serve_25 : decode cX6_serve 25 = .ok (.iload_n 1, 1) := by decide +kernel
theorem dX6_serve_26 : decode cX6_serve 26 = .ok (.iconst 2, 1) := by decide +kernel
theorem dX6_serve_27 : decode cX6_serve 27 = .ok (.if_icmp .ne 11, 3) := by decide +kernel
theorem dX6_serve_30 : decode cX6_serve 30 = .ok (.aload_n 2, 1) := by decide +kernel
theorem dX6_serve_31 : decode cX6_serve 31 = .ok (.iconst 5, 1) := by decide +kernel
theorem dX6_serve_32 : decode cX6_serve 32 = .ok (.putfield 106, 3) := by decide +kernel
theorem dX6_serve_35 : decode cX6_serve 35 = .ok (.goto 8, 3) := by decide +kernel
theorem dX6_serve_38 : decode cX6_serve 38 = .ok (.aload_n 0, 1) := by decide +kernel
theorem dX6_serve_39 : decode cX6_serve 39 = .ok (.aload_n 2, 1) := by decide +kernel
theorem dX6_serve_40 : decode cX6_serve 40 = .ok (.invokevirtual 225, 3) := by decide +kernel
theorem dX6_serve_43 : decode cX6_serve 43 = .ok (.return_, 1) := by decide +kernel
theorem dX6_read_0 : decode cX6_read 0 = .ok (.aload_n 1, 1) := by decide +kernel
theorem dX6_read_1 : decode cX6_read 1 = .ok (.aload_n 0, 1) := by decide +kernel
theorem dX6_read_2 : decode cX6_read 2 = .ok (.getfield 25, 3) := by decide +kernel
theorem dX6_read_5 : decode cX6_read 5 = .ok (.putfield 202, 3) := by decide +kernel
theorem dX6_read_8 : decode cX6_read 8 = .ok (.aload_n 1, 1) := by decide +kernel
theorem dX6_read_9 : decode cX6_read 9 = .ok (.invokevirtual 228, 3) := by decide +kernel
theorem dX6_read_12 : decode cX6_read 12 = .ok (.ifCond .ne 11, 3) := by decide +kernel
theorem dX6_read_15 : decode cX6_read 15 = .ok (.aload_n 1, 1) := by decide +kernel
theorem dX6_read_16 : decode cX6_read 16 = .ok (.iconst 2, 1) := by decide +kernel
theorem dX6_read_17 : decode cX6_read 17 = .ok (.putfield 106, 3) := by decide +kernel
theorem dX6_read_20 : decode cX6_read 20 = .ok (.goto 18, 3) := by decide +kernel
theorem dX6_read_23 : decode cX6_read 23 = .ok (.aload_n 1, 1) := by decide +kernel
theorem dX6_read_24 : decode cX6_read 24 = .ok (.iconst 1, 1) := by decide +kernel
theorem dX6_read_25 : decode cX6_read 25 = .ok (.putfield 106, 3) := by decide +kernel
theorem dX6_read_28 : decode cX6_read 28 = .ok (.aload_n 1, 1) := by decide +kernel
theorem dX6_read_29 : decode cX6_read 29 = .ok (.dup, 1) := by decide +kernel
theorem dX6_read_30 : decode cX6_read 30 = .ok (.getfield 231, 3) := by decide +kernel
theorem dX6_read_33 : decode cX6_read 33 = .ok (.iconst 1, 1) := by decide +kernel
theorem dX6_read_34 : decode cX6_read 34 = .ok (.iadd, 1) := by decide +kernel
theorem dX6_read_35 : decode cX6_read 35 = .ok (.putfield 231, 3) := by decide +kernel
theorem dX6_read_38 : decode cX6_read 38 = .ok (.return_, 1) := by decide +kernel
theorem dX6_check_0 : decode cX6_check 0 = .ok (.aload_n 1, 1) := by decide +kernel
theorem dX6_check_1 : decode cX6_check 1 = .ok (.getfield 205, 3) := by decide +kernel
theorem dX6_check_4 : decode cX6_check 4 = .ok (.getfield 234, 3) := by decide +kernel
theorem dX6_check_7 : decode cX6_check 7 = .ok (.ifCond .ne 20, 3) := by decide +kernel
theorem dX6_check_10 : decode cX6_check 10 = .ok (.aload_n 1, 1) := by decide +kernel
theorem dX6_check_11 : decode cX6_check 11 = .ok (.getfield 205, 3) := by decide +kernel
theorem dX6_check_14 : decode cX6_check 14 = .ok (.getfield 209, 3) := by decide +kernel
theorem dX6_check_17 : decode cX6_check 17 = .ok (.aload_n 0, 1) := by decide +kernel
theorem dX6_check_18 : decode cX6_check 18 = .ok (.getfield 57, 3) := by decide +kernel
theorem dX6_check_21 : decode cX6_check 21 = .ok (.getfield 237, 3) := by decide +kernel
theorem dX6_check_24 : decode cX6_check 24 = .ok (.if_icmp .le 7, 3) := by decide +kernel
theorem dX6_check_27 : decode cX6_check 27 = .ok (.iconst 1, 1) := by decide +kernel
theorem dX6_check_28 : decode cX6_check 28 = .ok (.goto 4, 3) := by decide +kernel
theorem dX6_check_31 : decode cX6_check 31 = .ok (.iconst 0, 1) := by decide +kernel
theorem dX6_check_32 : decode cX6_check 32 = .ok (.istore_n 2, 1) := by decide +kernel
theorem dX6_check_33 : decode cX6_check 33 = .ok (.aload_n 0, 1) := by decide +kernel
theorem dX6_check_34 : decode cX6_check 34 = .ok (.getfield 49, 3) := by decide +kernel
theorem dX6_check_37 : decode cX6_check 37 = .ok (.aload_n 1, 1) := by decide +kernel
theorem dX6_check_38 : decode cX6_check 38 = .ok (.getfield 240, 3) := by decide +kernel
theorem dX6_check_41 : decode cX6_check 41 = .ok (.iconst 1, 1) := by decide +kernel
theorem dX6_check_42 : decode cX6_check 42 = .ok (.aload_n 0, 1) := by decide +kernel
theorem dX6_check_43 : decode cX6_check 43 = .ok (.getfield 57, 3) := by decide +kernel
theorem dX6_check_46 : decode cX6_check 46 = .ok (.getfield 245, 3) := by decide +kernel
theorem dX6_check_49 : decode cX6_check 49 = .ok (.invokevirtual 248, 3) := by decide +kernel
theorem dX6_check_52 : decode cX6_check 52 = .ok (.ifCond .eq 12, 3) := by decide +kernel
theorem dX6_check_55 : decode cX6_check 55 = .ok (.aload_n 1, 1) := by decide +kernel
theorem dX6_check_56 : decode cX6_check 56 = .ok (.bipush 9, 2) := by decide +kernel
theorem dX6_check_58 : decode cX6_check 58 = .ok (.putfield 106, 3) := by decide +kernel
theorem dX6_check_61 : decode cX6_check 61 = .ok (.goto 46, 3) := by decide +kernel
theorem dX6_check_64 : decode cX6_check 64 = .ok (.aload_n 0, 1) := by decide +kernel
theorem dX6_check_65 : decode cX6_check 65 = .ok (.getfield 49, 3) := by decide +kernel
theorem dX6_check_68 : decode cX6_check 68 = .ok (.aload_n 1, 1) := by decide +kernel
theorem dX6_check_69 : decode cX6_check 69 = .ok (.getfield 240, 3) := by decide +kernel
theorem dX6_check_72 : decode cX6_check 72 = .ok (.iconst 0, 1) := by decide +kernel
theorem dX6_check_73 : decode cX6_check 73 = .ok (.aload_n 0, 1) := by decide +kernel
theorem dX6_check_74 : decode cX6_check 74 = .ok (.getfield 57, 3) := by decide +kernel
theorem dX6_check_77 : decode cX6_check 77 = .ok (.getfield 245, 3) := by decide +kernel
theorem dX6_check_80 : decode cX6_check 80 = .ok (.invokevirtual 248, 3) := by decide +kernel
theorem dX6_check_83 : decode cX6_check 83 = .ok (.ifCond .eq 11, 3) := by decide +kernel
theorem dX6_check_86 : decode cX6_check 86 = .ok (.aload_n 1, 1) := by decide +kernel
theorem dX6_check_87 : decode cX6_check 87 = .ok (.iconst 3, 1) := by decide +kernel
theorem dX6_check_88 : decode cX6_check 88 = .ok (.putfield 106, 3) := by decide +kernel
theorem dX6_check_91 : decode cX6_check 91 = .ok (.goto 16, 3) := by decide +kernel
theorem dX6_check_94 : decode cX6_check 94 = .ok (.aload_n 1, 1) := by decide +kernel
theorem dX6_check_95 : decode cX6_check 95 = .ok (.iload_n 2, 1) := by decide +kernel
theorem dX6_check_96 : decode cX6_check 96 = .ok (.ifCond .eq 7, 3) := by decide +kernel
theorem dX6_check_99 : decode cX6_check 99 = .ok (.iconst 4, 1) := by decide +kernel
theorem dX6_check_100 : decode cX6_check 100 = .ok (.goto 4, 3) := by decide +kernel
theorem dX6_check_103 : decode cX6_check 103 = .ok (.iconst 5, 1) := by decide +kernel
theorem dX6_check_104 : decode cX6_check 104 = .ok (.putfield 106, 3) := by decide +kernel
theorem dX6_check_107 : decode cX6_check 107 = .ok (.return_, 1) := by decide +kernel
theorem dX6_checkHeldAgain_0 : decode cX6_checkHeldAgain 0 = .ok (.iconst 0, 1) := by decide +kernel
theorem dX6_checkHeldAgain_1 : decode cX6_checkHeldAgain 1 = .ok (.istore_n 1, 1) := by decide +kernel
theorem dX6_checkHeldAgain_2 : decode cX6_checkHeldAgain 2 = .ok (.iconst 0, 1) := by decide +kernel
theorem dX6_checkHeldAgain_3 : decode cX6_checkHeldAgain 3 = .ok (.istore_n 2, 1) := by decide +kernel
theorem dX6_checkHeldAgain_4 : decode cX6_checkHeldAgain 4 = .ok (.iload_n 2, 1) := by decide +kernel
theorem dX6_checkHeldAgain_5 : decode cX6_checkHeldAgain 5 = .ok (.aload_n 0, 1) := by decide +kernel
theorem dX6_checkHeldAgain_6 : decode cX6_checkHeldAgain 6 = .ok (.getfield 12, 3) := by decide +kernel
theorem dX6_checkHeldAgain_9 : decode cX6_checkHeldAgain 9 = .ok (.invokevirtual 68, 3) := by decide +kernel
theorem dX6_checkHeldAgain_12 : decode cX6_checkHeldAgain 12 = .ok (.if_icmp .ge 45, 3) := by decide +kernel
theorem dX6_checkHeldAgain_15 : decode cX6_checkHeldAgain 15 = .ok (.aload_n 0, 1) := by decide +kernel
theorem dX6_checkHeldAgain_16 : decode cX6_checkHeldAgain 16 = .ok (.getfield 12, 3) := by decide +kernel
theorem dX6_checkHeldAgain_19 : decode cX6_checkHeldAgain 19 = .ok (.iload_n 2, 1) := by decide +kernel
theorem dX6_checkHeldAgain_20 : decode cX6_checkHeldAgain 20 = .ok (.invokevirtual 72, 3) := by decide +kernel
theorem dX6_checkHeldAgain_23 : decode cX6_checkHeldAgain 23 = .ok (.checkcast 76, 3) := by decide +kernel
theorem dX6_checkHeldAgain_26 : decode cX6_checkHeldAgain 26 = .ok (.astore_n 3, 1) := by decide +kernel
theorem dX6_checkHeldAgain_27 : decode cX6_checkHeldAgain 27 = .ok (.aload_n 3, 1) := by decide +kernel
theorem dX6_checkHeldAgain_28 : decode cX6_checkHeldAgain 28 = .ok (.getfield 106, 3) := by decide +kernel
theorem dX6_checkHeldAgain_31 : decode cX6_checkHeldAgain 31 = .ok (.iconst 3, 1) := by decide +kernel
theorem dX6_checkHeldAgain_32 : decode cX6_checkHeldAgain 32 = .ok (.if_icmp .ne 19, 3) := by decide +kernel
theorem dX6_checkHeldAgain_35 : decode cX6_checkHeldAgain 35 = .ok (.aload_n 0, 1) := by decide +kernel
theorem dX6_checkHeldAgain_36 : decode cX6_checkHeldAgain 36 = .ok (.aload_n 3, 1) := by decide +kernel
theorem dX6_checkHeldAgain_37 : decode cX6_checkHeldAgain 37 = .ok (.invokevirtual 222, 3) := by decide +kernel
theorem dX6_checkHeldAgain_40 : decode cX6_checkHeldAgain 40 = .ok (.aload_n 3, 1) := by decide +kernel
theorem dX6_checkHeldAgain_41 : decode cX6_checkHeldAgain 41 = .ok (.getfield 106, 3) := by decide +kernel
theorem dX6_checkHeldAgain_44 : decode cX6_checkHeldAgain 44 = .ok (.iconst 3, 1) := by decide +kernel
theorem dX6_checkHeldAgain_45 : decode cX6_checkHeldAgain 45 = .ok (.if_icmp .eq 6, 3) := by decide +kernel
theorem dX6_checkHeldAgain_48 : decode cX6_checkHeldAgain 48 = .ok (.iinc 1 1, 3) := by decide +kernel
theorem dX6_checkHeldAgain_51 : decode cX6_checkHeldAgain 51 = .ok (.iinc 2 1, 3) := by decide +kernel
theorem dX6_checkHeldAgain_54 : decode cX6_checkHeldAgain 54 = .ok (.goto (-50), 3) := by decide +kernel
theorem dX6_checkHeldAgain_57 : decode cX6_checkHeldAgain 57 = .ok (.iload_n 1, 1) := by decide +kernel
theorem dX6_checkHeldAgain_58 : decode cX6_checkHeldAgain 58 = .ok (.ireturn, 1) := by decide +kernel
theorem dX6_print_0 : decode cX6_print 0 = .ok (.aload_n 0, 1) := by decide +kernel
theorem dX6_print_1 : decode cX6_print 1 = .ok (.dup, 1) := by decide +kernel
theorem dX6_print_2 : decode cX6_print 2 = .ok (.getfield 31, 3) := by decide +kernel
theorem dX6_print_5 : decode cX6_print 5 = .ok (.iconst 1, 1) := by decide +kernel
theorem dX6_print_6 : decode cX6_print 6 = .ok (.isub, 1) := by decide +kernel
theorem dX6_print_7 : decode cX6_print 7 = .ok (.putfield 31, 3) := by decide +kernel
theorem dX6_print_10 : decode cX6_print 10 = .ok (.aload_n 1, 1) := by decide +kernel
theorem dX6_print_11 : decode cX6_print 11 = .ok (.getfield 252, 3) := by decide +kernel
theorem dX6_print_14 : decode cX6_print 14 = .ok (.iconst 3, 1) := by decide +kernel
theorem dX6_print_15 : decode cX6_print 15 = .ok (.if_icmp .eq 11, 3) := by decide +kernel
theorem dX6_print_18 : decode cX6_print 18 = .ok (.aload_n 0, 1) := by decide +kernel
theorem dX6_print_19 : decode cX6_print 19 = .ok (.aload_n 1, 1) := by decide +kernel
theorem dX6_print_20 : decode cX6_print 20 = .ok (.getfield 240, 3) := by decide +kernel
theorem dX6_print_23 : decode cX6_print 23 = .ok (.invokevirtual 255, 3) := by decide +kernel
theorem dX6_print_26 : decode cX6_print 26 = .ok (.aload_n 1, 1) := by decide +kernel
theorem dX6_print_27 : decode cX6_print 27 = .ok (.aload_n 0, 1) := by decide +kernel
theorem dX6_print_28 : decode cX6_print 28 = .ok (.getfield 21, 3) := by decide +kernel
theorem dX6_print_31 : decode cX6_print 31 = .ok (.putfield 259, 3) := by decide +kernel
theorem dX6_print_34 : decode cX6_print 34 = .ok (.aload_n 0, 1) := by decide +kernel
theorem dX6_print_35 : decode cX6_print 35 = .ok (.invokevirtual 90, 3) := by decide +kernel
theorem dX6_print_38 : decode cX6_print 38 = .ok (.astore_n 2, 1) := by decide +kernel
theorem dX6_print_39 : decode cX6_print 39 = .ok (.aload_n 2, 1) := by decide +kernel
theorem dX6_print_40 : decode cX6_print 40 = .ok (.aload_n 1, 1) := by decide +kernel
theorem dX6_print_41 : decode cX6_print 41 = .ok (.getfield 240, 3) := by decide +kernel
theorem dX6_print_44 : decode cX6_print 44 = .ok (.getfield 120, 3) := by decide +kernel
theorem dX6_print_47 : decode cX6_print 47 = .ok (.putfield 117, 3) := by decide +kernel
theorem dX6_print_50 : decode cX6_print 50 = .ok (.aload_n 2, 1) := by decide +kernel
theorem dX6_print_51 : decode cX6_print 51 = .ok (.aload_n 0, 1) := by decide +kernel
theorem dX6_print_52 : decode cX6_print 52 = .ok (.getfield 25, 3) := by decide +kernel
theorem dX6_print_55 : decode cX6_print 55 = .ok (.putfield 262, 3) := by decide +kernel
theorem dX6_print_58 : decode cX6_print 58 = .ok (.aload_n 2, 1) := by decide +kernel
theorem dX6_print_59 : decode cX6_print 59 = .ok (.aload_n 0, 1) := by decide +kernel
theorem dX6_print_60 : decode cX6_print 60 = .ok (.getfield 25, 3) := by decide +kernel
theorem dX6_print_63 : decode cX6_print 63 = .ok (.aload_n 1, 1) := by decide +kernel
theorem dX6_print_64 : decode cX6_print 64 = .ok (.getfield 205, 3) := by decide +kernel
theorem dX6_print_67 : decode cX6_print 67 = .ok (.invokevirtual 265, 3) := by decide +kernel
theorem dX6_print_70 : decode cX6_print 70 = .ok (.sipush 365, 3) := by decide +kernel
theorem dX6_print_73 : decode cX6_print 73 = .ok (.imul, 1) := by decide +kernel
theorem dX6_print_74 : decode cX6_print 74 = .ok (.iadd, 1) := by decide +kernel
theorem dX6_print_75 : decode cX6_print 75 = .ok (.putfield 129, 3) := by decide +kernel
theorem dX6_print_78 : decode cX6_print 78 = .ok (.aload_n 2, 1) := by decide +kernel
theorem dX6_print_79 : decode cX6_print 79 = .ok (.aload_n 1, 1) := by decide +kernel
theorem dX6_print_80 : decode cX6_print 80 = .ok (.getfield 159, 3) := by decide +kernel
theorem dX6_print_83 : decode cX6_print 83 = .ok (.putfield 268, 3) := by decide +kernel
theorem dX6_print_86 : decode cX6_print 86 = .ok (.aload_n 1, 1) := by decide +kernel
theorem dX6_print_87 : decode cX6_print 87 = .ok (.getfield 240, 3) := by decide +kernel
theorem dX6_print_90 : decode cX6_print 90 = .ok (.getfield 271, 3) := by decide +kernel
theorem dX6_print_93 : decode cX6_print 93 = .ok (.ifCond .eq 13, 3) := by decide +kernel
theorem dX6_print_96 : decode cX6_print 96 = .ok (.aload_n 0, 1) := by decide +kernel
theorem dX6_print_97 : decode cX6_print 97 = .ok (.getfield 57, 3) := by decide +kernel
theorem dX6_print_100 : decode cX6_print 100 = .ok (.getfield 274, 3) := by decide +kernel
theorem dX6_print_103 : decode cX6_print 103 = .ok (.goto 10, 3) := by decide +kernel
theorem dX6_print_106 : decode cX6_print 106 = .ok (.aload_n 0, 1) := by decide +kernel
theorem dX6_print_107 : decode cX6_print 107 = .ok (.getfield 57, 3) := by decide +kernel
theorem dX6_print_110 : decode cX6_print 110 = .ok (.getfield 276, 3) := by decide +kernel
theorem dX6_print_113 : decode cX6_print 113 = .ok (.istore_n 3, 1) := by decide +kernel
theorem dX6_print_114 : decode cX6_print 114 = .ok (.aload_n 1, 1) := by decide +kernel
theorem dX6_print_115 : decode cX6_print 115 = .ok (.aload_n 0, 1) := by decide +kernel
theorem dX6_print_116 : decode cX6_print 116 = .ok (.getfield 25, 3) := by decide +kernel
theorem dX6_print_119 : decode cX6_print 119 = .ok (.iload_n 3, 1) := by decide +kernel
theorem dX6_print_120 : decode cX6_print 120 = .ok (.iadd, 1) := by decide +kernel
theorem dX6_print_121 : decode cX6_print 121 = .ok (.putfield 170, 3) := by decide +kernel
theorem dX6_print_124 : decode cX6_print 124 = .ok (.aload_n 1, 1) := by decide +kernel
theorem dX6_print_125 : decode cX6_print 125 = .ok (.bipush 6, 2) := by decide +kernel
theorem dX6_print_127 : decode cX6_print 127 = .ok (.putfield 106, 3) := by decide +kernel
theorem dX6_print_130 : decode cX6_print 130 = .ok (.iload_n 3, 1) := by decide +kernel
theorem dX6_print_131 : decode cX6_print 131 = .ok (.ifCond .ne 8, 3) := by decide +kernel
theorem dX6_print_134 : decode cX6_print 134 = .ok (.aload_n 0, 1) := by decide +kernel
theorem dX6_print_135 : decode cX6_print 135 = .ok (.aload_n 1, 1) := by decide +kernel
theorem dX6_print_136 : decode cX6_print 136 = .ok (.invokevirtual 173, 3) := by decide +kernel
theorem dX6_print_139 : decode cX6_print 139 = .ok (.return_, 1) := by decide +kernel
theorem dX6_endValidOnes_0 : decode cX6_endValidOnes 0 = .ok (.iconst 0, 1) := by decide +kernel
theorem dX6_endValidOnes_1 : decode cX6_endValidOnes 1 = .ok (.istore_n 2, 1) := by decide +kernel
theorem dX6_endValidOnes_2 : decode cX6_endValidOnes 2 = .ok (.iload_n 2, 1) := by decide +kernel
theorem dX6_endValidOnes_3 : decode cX6_endValidOnes 3 = .ok (.aload_n 0, 1) := by decide +kernel
theorem dX6_endValidOnes_4 : decode cX6_endValidOnes 4 = .ok (.getfield 21, 3) := by decide +kernel
theorem dX6_endValidOnes_7 : decode cX6_endValidOnes 7 = .ok (.if_icmp .ge 49, 3) := by decide +kernel
theorem dX6_endValidOnes_10 : decode cX6_endValidOnes 10 = .ok (.aload_n 0, 1) := by decide +kernel
theorem dX6_endValidOnes_11 : decode cX6_endValidOnes 11 = .ok (.iload_n 2, 1) := by decide +kernel
theorem dX6_endValidOnes_12 : decode cX6_endValidOnes 12 = .ok (.invokevirtual 113, 3) := by decide +kernel
theorem dX6_endValidOnes_15 : decode cX6_endValidOnes 15 = .ok (.astore_n 3, 1) := by decide +kernel
theorem dX6_endValidOnes_16 : decode cX6_endValidOnes 16 = .ok (.aload_n 3, 1) := by decide +kernel
theorem dX6_endValidOnes_17 : decode cX6_endValidOnes 17 = .ok (.ifnull 33, 3) := by decide +kernel
theorem dX6_endValidOnes_20 : decode cX6_endValidOnes 20 = .ok (.aload_n 3, 1) := by decide +kernel
theorem dX6_endValidOnes_21 : decode cX6_endValidOnes 21 = .ok (.getfield 117, 3) := by decide +kernel
theorem dX6_endValidOnes_24 : decode cX6_endValidOnes 24 = .ok (.aload_n 1, 1) := by decide +kernel
theorem dX6_endValidOnes_25 : decode cX6_endValidOnes 25 = .ok (.getfield 120, 3) := by decide +kernel
theorem dX6_endValidOnes_28 : decode cX6_endValidOnes 28 = .ok (.if_icmp .ne 22, 3) := by decide +kernel
theorem dX6_endValidOnes_31 : decode cX6_endValidOnes 31 = .ok (.aload_n 3, 1) := by decide +kernel
theorem dX6_endValidOnes_32 : decode cX6_endValidOnes 32 = .ok (.aload_n 0, 1) := by decide +kernel
theorem dX6_endValidOnes_33 : decode cX6_endValidOnes 33 = .ok (.getfield 25, 3) := by decide +kernel
theorem dX6_endValidOnes_36 : decode cX6_endValidOnes 36 = .ok (.invokevirtual 125, 3) := by decide +kernel
theorem dX6_endValidOnes_39 : decode cX6_endValidOnes 39 = .ok (.ifCond .eq 11, 3) := by decide +kernel
theorem dX6_endValidOnes_42 : decode cX6_endValidOnes 42 = .ok (.aload_n 3, 1) := by decide +kernel
theorem dX6_endValidOnes_43 : decode cX6_endValidOnes 43 = .ok (.aload_n 0, 1) := by decide +kernel
theorem dX6_endValidOnes_44 : decode cX6_endValidOnes 44 = .ok (.getfield 25, 3) := by decide +kernel
theorem dX6_endValidOnes_47 : decode cX6_endValidOnes 47 = .ok (.putfield 129, 3) := by decide +kernel
theorem dX6_endValidOnes_50 : decode cX6_endValidOnes 50 = .ok (.iinc 2 1, 3) := by decide +kernel
theorem dX6_endValidOnes_53 : decode cX6_endValidOnes 53 = .ok (.goto (-51), 3) := by decide +kernel
theorem dX6_endValidOnes_56 : decode cX6_endValidOnes 56 = .ok (.return_, 1) := by decide +kernel
theorem dX6_endBooklet_0 : decode cX6_endBooklet 0 = .ok (.aload_n 0, 1) := by decide +kernel
theorem dX6_endBooklet_1 : decode cX6_endBooklet 1 = .ok (.iload_n 1, 1) := by decide +kernel
theorem dX6_endBooklet_2 : decode cX6_endBooklet 2 = .ok (.invokevirtual 113, 3) := by decide +kernel
theorem dX6_endBooklet_5 : decode cX6_endBooklet 5 = .ok (.astore_n 2, 1) := by decide +kernel
theorem dX6_endBooklet_6 : decode cX6_endBooklet 6 = .ok (.aload_n 2, 1) := by decide +kernel
theorem dX6_endBooklet_7 : decode cX6_endBooklet 7 = .ok (.ifnull 22, 3) := by decide +kernel
theorem dX6_endBooklet_10 : decode cX6_endBooklet 10 = .ok (.aload_n 2, 1) := by decide +kernel
theorem dX6_endBooklet_11 : decode cX6_endBooklet 11 = .ok (.getfield 129, 3) := by decide +kernel
theorem dX6_endBooklet_14 : decode cX6_endBooklet 14 = .ok (.aload_n 0, 1) := by decide +kernel
theorem dX6_endBooklet_15 : decode cX6_endBooklet 15 = .ok (.getfield 25, 3) := by decide +kernel
theorem dX6_endBooklet_18 : decode cX6_endBooklet 18 = .ok (.if_icmp .le 11, 3) := by decide +kernel
theorem dX6_endBooklet_21 : decode cX6_endBooklet 21 = .ok (.aload_n 2, 1) := by decide +kernel
theorem dX6_endBooklet_22 : decode cX6_endBooklet 22 = .ok (.aload_n 0, 1) := by decide +kernel
theorem dX6_endBooklet_23 : decode cX6_endBooklet 23 = .ok (.getfield 25, 3) := by decide +kernel
theorem dX6_endBooklet_26 : decode cX6_endBooklet 26 = .ok (.putfield 129, 3) := by decide +kernel
theorem dX6_endBooklet_29 : decode cX6_endBooklet 29 = .ok (.return_, 1) := by decide +kernel
theorem dX6_arrive_0 : decode cX6_arrive 0 = .ok (.aload_n 1, 1) := by decide +kernel
theorem dX6_arrive_1 : decode cX6_arrive 1 = .ok (.bipush 7, 2) := by decide +kernel
theorem dX6_arrive_3 : decode cX6_arrive 3 = .ok (.putfield 106, 3) := by decide +kernel
theorem dX6_arrive_6 : decode cX6_arrive 6 = .ok (.aload_n 1, 1) := by decide +kernel
theorem dX6_arrive_7 : decode cX6_arrive 7 = .ok (.aload_n 0, 1) := by decide +kernel
theorem dX6_arrive_8 : decode cX6_arrive 8 = .ok (.getfield 25, 3) := by decide +kernel
theorem dX6_arrive_11 : decode cX6_arrive 11 = .ok (.putfield 279, 3) := by decide +kernel
theorem dX6_arrive_14 : decode cX6_arrive 14 = .ok (.aload_n 1, 1) := by decide +kernel
theorem dX6_arrive_15 : decode cX6_arrive 15 = .ok (.getfield 205, 3) := by decide +kernel
theorem dX6_arrive_18 : decode cX6_arrive 18 = .ok (.getfield 282, 3) := by decide +kernel
theorem dX6_arrive_21 : decode cX6_arrive 21 = .ok (.iconst (-1), 1) := by decide +kernel
theorem dX6_arrive_22 : decode cX6_arrive 22 = .ok (.if_icmp .eq 43, 3) := by decide +kernel
theorem dX6_arrive_25 : decode cX6_arrive 25 = .ok (.aload_n 1, 1) := by decide +kernel
theorem dX6_arrive_26 : decode cX6_arrive 26 = .ok (.getfield 279, 3) := by decide +kernel
theorem dX6_arrive_29 : decode cX6_arrive 29 = .ok (.aload_n 1, 1) := by decide +kernel
theorem dX6_arrive_30 : decode cX6_arrive 30 = .ok (.getfield 156, 3) := by decide +kernel
theorem dX6_arrive_33 : decode cX6_arrive 33 = .ok (.isub, 1) := by decide +kernel
theorem dX6_arrive_34 : decode cX6_arrive 34 = .ok (.aload_n 1, 1) := by decide +kernel
theorem dX6_arrive_35 : decode cX6_arrive 35 = .ok (.getfield 205, 3) := by decide +kernel
theorem dX6_arrive_38 : decode cX6_arrive 38 = .ok (.getfield 282, 3) := by decide +kernel
theorem dX6_arrive_41 : decode cX6_arrive 41 = .ok (.if_icmp .le 24, 3) := by decide +kernel
theorem dX6_arrive_44 : decode cX6_arrive 44 = .ok (.aload_n 1, 1) := by decide +kernel
theorem dX6_arrive_45 : decode cX6_arrive 45 = .ok (.iconst 1, 1) := by decide +kernel
theorem dX6_arrive_46 : decode cX6_arrive 46 = .ok (.putfield 285, 3) := by decide +kernel
theorem dX6_arrive_49 : decode cX6_arrive 49 = .ok (.aload_n 0, 1) := by decide +kernel
theorem dX6_arrive_50 : decode cX6_arrive 50 = .ok (.dup, 1) := by decide +kernel
theorem dX6_arrive_51 : decode cX6_arrive 51 = .ok (.getfield 37, 3) := by decide +kernel
theorem dX6_arrive_54 : decode cX6_arrive 54 = .ok (.aload_n 1, 1) := by decide +kernel
theorem dX6_arrive_55 : decode cX6_arrive 55 = .ok (.getfield 205, 3) := by decide +kernel
theorem dX6_arrive_58 : decode cX6_arrive 58 = .ok (.getfield 288, 3) := by decide +kernel
theorem dX6_arrive_61 : decode cX6_arrive 61 = .ok (.iadd, 1) := by decide +kernel
theorem dX6_arrive_62 : decode cX6_arrive 62 = .ok (.putfield 37, 3) := by decide +kernel
theorem dX6_arrive_65 : decode cX6_arrive 65 = .ok (.return_, 1) := by decide +kernel
