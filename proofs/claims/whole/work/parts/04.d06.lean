theorem dL_law_0 : decode cL_law 0 = .ok (.aload_n 2, 1) := by decide +kernel
theorem dL_law_1 : decode cL_law 1 = .ok (.iconst 0, 1) := by decide +kernel
theorem dL_law_2 : decode cL_law 2 = .ok (.aload_n 0, 1) := by decide +kernel
theorem dL_law_3 : decode cL_law 3 = .ok (.iload_n 1, 1) := by decide +kernel
theorem dL_law_4 : decode cL_law 4 = .ok (.invokevirtual 7, 3) := by decide +kernel
theorem dL_law_7 : decode cL_law 7 = .ok (.i2l, 1) := by decide +kernel
theorem dL_law_8 : decode cL_law 8 = .ok (.lastore, 1) := by decide +kernel
theorem dL_law_9 : decode cL_law 9 = .ok (.goto 9, 3) := by decide +kernel
theorem dL_law_12 : decode cL_law 12 = .ok (.astore_n 3, 1) := by decide +kernel
theorem dL_law_13 : decode cL_law 13 = .ok (.iconst 1, 1) := by decide +kernel
theorem dL_law_14 : decode cL_law 14 = .ok (.ireturn, 1) := by decide +kernel
theorem dL_law_15 : decode cL_law 15 = .ok (.astore_n 3, 1) := by decide +kernel
theorem dL_law_16 : decode cL_law 16 = .ok (.iconst 2, 1) := by decide +kernel
theorem dL_law_17 : decode cL_law 17 = .ok (.ireturn, 1) := by decide +kernel
theorem dL_law_18 : decode cL_law 18 = .ok (.iconst 0, 1) := by decide +kernel
theorem dL_law_19 : decode cL_law 19 = .ok (.ireturn, 1) := by decide +kernel
theorem dL_person_0 : decode cL_person 0 = .ok (.aload 8, 2) := by decide +kernel
theorem dL_person_2 : decode cL_person 2 = .ok (.iconst 0, 1) := by decide +kernel
theorem dL_person_3 : decode cL_person 3 = .ok (.aload_n 0, 1) := by decide +kernel
theorem dL_person_4 : decode cL_person 4 = .ok (.iload_n 1, 1) := by decide +kernel
theorem dL_person_5 : decode cL_person 5 = .ok (.iload_n 2, 1) := by decide +kernel
theorem dL_person_6 : decode cL_person 6 = .ok (.iload_n 3, 1) := by decide +kernel
theorem dL_person_7 : decode cL_person 7 = .ok (.iload 4, 2) := by decide +kernel
theorem dL_person_9 : decode cL_person 9 = .ok (.iload 5, 2) := by decide +kernel
theorem dL_person_11 : decode cL_person 11 = .ok (.iload 6, 2) := by decide +kernel
theorem dL_person_13 : decode cL_person 13 = .ok (.iload 7, 2) := by decide +kernel
theorem dL_person_15 : decode cL_person 15 = .ok (.invokevirtual 17, 3) := by decide +kernel
theorem dL_person_18 : decode cL_person 18 = .ok (.i2l, 1) := by decide +kernel
theorem dL_person_19 : decode cL_person 19 = .ok (.lastore, 1) := by decide +kernel
theorem dL_person_20 : decode cL_person 20 = .ok (.goto 11, 3) := by decide +kernel
theorem dL_person_23 : decode cL_person 23 = .ok (.astore 9, 2) := by decide +kernel
theorem dL_person_25 : decode cL_person 25 = .ok (.iconst 1, 1) := by decide +kernel
theorem dL_person_26 : decode cL_person 26 = .ok (.ireturn, 1) := by decide +kernel
theorem dL_person_27 : decode cL_person 27 = .ok (.astore 9, 2) := by decide +kernel
theorem dL_person_29 : decode cL_person 29 = .ok (.iconst 2, 1) := by decide +kernel
theorem dL_person_30 : decode cL_person 30 = .ok (.ireturn, 1) := by decide +kernel
theorem dL_person_31 : decode cL_person 31 = .ok (.iconst 0, 1) := by decide +kernel
theorem dL_person_32 : decode cL_person 32 = .ok (.ireturn, 1) := by decide +kernel
theorem dL_name_0 : decode cL_name 0 = .ok (.aload_n 2, 1) := by decide +kernel
theorem dL_name_1 : decode cL_name 1 = .ok (.iconst 0, 1) := by decide +kernel
theorem dL_name_2 : decode cL_name 2 = .ok (.aload_n 0, 1) := by decide +kernel
theorem dL_name_3 : decode cL_name 3 = .ok (.iload_n 1, 1) := by decide +kernel
theorem dL_name_4 : decode cL_name 4 = .ok (.invokevirtual 21, 3) := by decide +kernel
theorem dL_name_7 : decode cL_name 7 = .ok (.i2l, 1) := by decide +kernel
theorem dL_name_8 : decode cL_name 8 = .ok (.lastore, 1) := by decide +kernel
theorem dL_name_9 : decode cL_name 9 = .ok (.goto 9, 3) := by decide +kernel
theorem dL_name_12 : decode cL_name 12 = .ok (.astore_n 3, 1) := by decide +kernel
theorem dL_name_13 : decode cL_name 13 = .ok (.iconst 1, 1) := by decide +kernel
theorem dL_name_14 : decode cL_name 14 = .ok (.ireturn, 1) := by decide +kernel
theorem dL_name_15 : decode cL_name 15 = .ok (.astore_n 3, 1) := by decide +kernel
theorem dL_name_16 : decode cL_name 16 = .ok (.iconst 2, 1) := by decide +kernel
theorem dL_name_17 : decode cL_name 17 = .ok (.ireturn, 1) := by decide +kernel
theorem dL_name_18 : decode cL_name 18 = .ok (.iconst 0, 1) := by decide +kernel
theorem dL_name_19 : decode cL_name 19 = .ok (.ireturn, 1) := by decide +kernel
theorem dL_sign_0 : decode cL_sign 0 = .ok (.aload_n 3, 1) := by decide +kernel
theorem dL_sign_1 : decode cL_sign 1 = .ok (.iconst 0, 1) := by decide +kernel
theorem dL_sign_2 : decode cL_sign 2 = .ok (.aload_n 0, 1) := by decide +kernel
theorem dL_sign_3 : decode cL_sign 3 = .ok (.iload_n 1, 1) := by decide +kernel
theorem dL_sign_4 : decode cL_sign 4 = .ok (.iload_n 2, 1) := by decide +kernel
theorem dL_sign_5 : decode cL_sign 5 = .ok (.invokevirtual 26, 3) := by decide +kernel
theorem dL_sign_8 : decode cL_sign 8 = .ok (.i2l, 1) := by decide +kernel
theorem dL_sign_9 : decode cL_sign 9 = .ok (.lastore, 1) := by decide +kernel
theorem dL_sign_10 : decode cL_sign 10 = .ok (.goto 7, 3) := by decide +kernel
theorem dL_sign_13 : decode cL_sign 13 = .ok (.astore 4, 2) := by decide +kernel
theorem dL_sign_15 : decode cL_sign 15 = .ok (.iconst 1, 1) := by decide +kernel
theorem dL_sign_16 : decode cL_sign 16 = .ok (.ireturn, 1) := by decide +kernel
theorem dL_sign_17 : decode cL_sign 17 = .ok (.iconst 0, 1) := by decide +kernel
theorem dL_sign_18 : decode cL_sign 18 = .ok (.ireturn, 1) := by decide +kernel
theorem dL_figure_0 : decode cL_figure 0 = .ok (.aload_n 2, 1) := by decide +kernel
theorem dL_figure_1 : decode cL_figure 1 = .ok (.iconst 0, 1) := by decide +kernel
theorem dL_figure_2 : decode cL_figure 2 = .ok (.aload_n 0, 1) := by decide +kernel
theorem dL_figure_3 : decode cL_figure 3 = .ok (.iload_n 1, 1) := by decide +kernel
theorem dL_figure_4 : decode cL_figure 4 = .ok (.invokevirtual 30, 3) := by decide +kernel
theorem dL_figure_7 : decode cL_figure 7 = .ok (.i2l, 1) := by decide +kernel
theorem dL_figure_8 : decode cL_figure 8 = .ok (.lastore, 1) := by decide +kernel
theorem dL_figure_9 : decode cL_figure 9 = .ok (.goto 6, 3) := by decide +kernel
theorem dL_figure_12 : decode cL_figure 12 = .ok (.astore_n 3, 1) := by decide +kernel
theorem dL_figure_13 : decode cL_figure 13 = .ok (.iconst 1, 1) := by decide +kernel
theorem dL_figure_14 : decode cL_figure 14 = .ok (.ireturn, 1) := by decide +kernel
theorem dL_figure_15 : decode cL_figure 15 = .ok (.iconst 0, 1) := by decide +kernel
theorem dL_figure_16 : decode cL_figure 16 = .ok (.ireturn, 1) := by decide +kernel
theorem dL_far_0 : decode cL_far 0 = .ok (.aload_n 3, 1) := by decide +kernel
theorem dL_far_1 : decode cL_far 1 = .ok (.iconst 0, 1) := by decide +kernel
theorem dL_far_2 : decode cL_far 2 = .ok (.aload_n 0, 1) := by decide +kernel
theorem dL_far_3 : decode cL_far 3 = .ok (.iload_n 1, 1) := by decide +kernel
theorem dL_far_4 : decode cL_far 4 = .ok (.iload_n 2, 1) := by decide +kernel
theorem dL_far_5 : decode cL_far 5 = .ok (.invokevirtual 33, 3) := by decide +kernel
theorem dL_far_8 : decode cL_far 8 = .ok (.i2l, 1) := by decide +kernel
theorem dL_far_9 : decode cL_far 9 = .ok (.lastore, 1) := by decide +kernel
theorem dL_far_10 : decode cL_far 10 = .ok (.goto 7, 3) := by decide +kernel
theorem dL_far_13 : decode cL_far 13 = .ok (.astore 4, 2) := by decide +kernel
theorem dL_far_15 : decode cL_far 15 = .ok (.iconst 1, 1) := by decide +kernel
theorem dL_far_16 : decode cL_far 16 = .ok (.ireturn, 1) := by decide +kernel
theorem dL_far_17 : decode cL_far 17 = .ok (.iconst 0, 1) := by decide +kernel
theorem dL_far_18 : decode cL_far 18 = .ok (.ireturn, 1) := by decide +kernel
theorem dL_tell_0 : decode cL_tell 0 = .ok (.aload 4, 2) := by decide +kernel
theorem dL_tell_2 : decode cL_tell 2 = .ok (.iconst 0, 1) := by decide +kernel
theorem dL_tell_3 : decode cL_tell 3 = .ok (.aload_n 0, 1) := by decide +kernel
theorem dL_tell_4 : decode cL_tell 4 = .ok (.iload_n 1, 1) := by decide +kernel
theorem dL_tell_5 : decode cL_tell 5 = .ok (.iload_n 2, 1) := by decide +kernel
theorem dL_tell_6 : decode cL_tell 6 = .ok (.iload_n 3, 1) := by decide +kernel
theorem dL_tell_7 : decode cL_tell 7 = .ok (.invokevirtual 36, 3) := by decide +kernel
theorem dL_tell_10 : decode cL_tell 10 = .ok (.i2l, 1) := by decide +kernel
theorem dL_tell_11 : decode cL_tell 11 = .ok (.lastore, 1) := by decide +kernel
theorem dL_tell_12 : decode cL_tell 12 = .ok (.goto 11, 3) := by decide +kernel
theorem dL_tell_15 : decode cL_tell 15 = .ok (.astore 5, 2) := by decide +kernel
theorem dL_tell_17 : decode cL_tell 17 = .ok (.iconst 1, 1) := by decide +kernel
theorem dL_tell_18 : decode cL_tell 18 = .ok (.ireturn, 1) := by decide +kernel
theorem dL_tell_19 : decode cL_tell 19 = .ok (.astore 5, 2) := by decide +kernel
theorem dL_tell_21 : decode cL_tell 21 = .ok (.iconst 2, 1) := by decide +kernel
theorem dL_tell_22 : decode cL_tell 22 = .ok (.ireturn, 1) := by decide +kernel
theorem dL_tell_23 : decode cL_tell 23 = .ok (.iconst 0, 1) := by decide +kernel
theorem dL_tell_24 : decode cL_tell 24 = .ok (.ireturn, 1) := by decide +kernel
theorem dL_judge_0 : decode cL_judge 0 = .ok (.aload 6, 2) := by decide +kernel
theorem dL_judge_2 : decode cL_judge 2 = .ok (.iconst 0, 1) := by decide +kernel
theorem dL_judge_3 : decode cL_judge 3 = .ok (.aload_n 0, 1) := by decide +kernel
theorem dL_judge_4 : decode cL_judge 4 = .ok (.iload_n 1, 1) := by decide +kernel
theorem dL_judge_5 : decode cL_judge 5 = .ok (.iload_n 2, 1) := by decide +kernel
theorem dL_judge_6 : decode cL_judge 6 = .ok (.iload_n 3, 1) := by decide +kernel
theorem dL_judge_7 : decode cL_judge 7 = .ok (.iload 4, 2) := by decide +kernel
theorem dL_judge_9 : decode cL_judge 9 = .ok (.iload 5, 2) := by decide +kernel
theorem dL_judge_11 : decode cL_judge 11 = .ok (.invokevirtual 40, 3) := by decide +kernel
theorem dL_judge_14 : decode cL_judge 14 = .ok (.i2l, 1) := by decide +kernel
theorem dL_judge_15 : decode cL_judge 15 = .ok (.lastore, 1) := by decide +kernel
theorem dL_judge_16 : decode cL_judge 16 = .ok (.goto 15, 3) := by decide +kernel
theorem dL_judge_19 : decode cL_judge 19 = .ok (.astore 7, 2) := by decide +kernel
theorem dL_judge_21 : decode cL_judge 21 = .ok (.iconst 1, 1) := by decide +kernel
theorem dL_judge_22 : decode cL_judge 22 = .ok (.ireturn, 1) := by decide +kernel
theorem dL_judge_23 : decode cL_judge 23 = .ok (.astore 7, 2) := by decide +kernel
theorem dL_judge_25 : decode cL_judge 25 = .ok (.iconst 2, 1) := by decide +kernel
theorem dL_judge_26 : decode cL_judge 26 = .ok (.ireturn, 1) := by decide +kernel
theorem dL_judge_27 : decode cL_judge 27 = .ok (.astore 7, 2) := by decide +kernel
theorem dL_judge_29 : decode cL_judge 29 = .ok (.iconst 3, 1) := by decide +kernel
theorem dL_judge_30 : decode cL_judge 30 = .ok (.ireturn, 1) := by decide +kernel
theorem dL_judge_31 : decode cL_judge 31 = .ok (.iconst 0, 1) := by decide +kernel
theorem dL_judge_32 : decode cL_judge 32 = .ok (.ireturn, 1) := by decide +kernel
theorem dL_ask_0 : decode cL_ask 0 = .ok (.aload 6, 2) := by decide +kernel
theorem dL_ask_2 : decode cL_ask 2 = .ok (.iconst 0, 1) := by decide +kernel
theorem dL_ask_3 : decode cL_ask 3 = .ok (.aload_n 0, 1) := by decide +kernel
theorem dL_ask_4 : decode cL_ask 4 = .ok (.iload_n 1, 1) := by decide +kernel
theorem dL_ask_5 : decode cL_ask 5 = .ok (.iload_n 2, 1) := by decide +kernel
theorem dL_ask_6 : decode cL_ask 6 = .ok (.iload_n 3, 1) := by decide +kernel
theorem dL_ask_7 : decode cL_ask 7 = .ok (.iload 4, 2) := by decide +kernel
theorem dL_ask_9 : decode cL_ask 9 = .ok (.iload 5, 2) := by decide +kernel
theorem dL_ask_11 : decode cL_ask 11 = .ok (.invokevirtual 46, 3) := by decide +kernel
theorem dL_ask_14 : decode cL_ask 14 = .ok (.i2l, 1) := by decide +kernel
theorem dL_ask_15 : decode cL_ask 15 = .ok (.lastore, 1) := by decide +kernel
theorem dL_ask_16 : decode cL_ask 16 = .ok (.goto 15, 3) := by decide +kernel
theorem dL_ask_19 : decode cL_ask 19 = .ok (.astore 7, 2) := by decide +kernel
theorem dL_ask_21 : decode cL_ask 21 = .ok (.iconst 1, 1) := by decide +kernel
theorem dL_ask_22 : decode cL_ask 22 = .ok (.ireturn, 1) := by decide +kernel
theorem dL_ask_23 : decode cL_ask 23 = .ok (.astore 7, 2) := by decide +kernel
theorem dL_ask_25 : decode cL_ask 25 = .ok (.iconst 2, 1) := by decide +kernel
theorem dL_ask_26 : decode cL_ask 26 = .ok (.ireturn, 1) := by decide +kernel
theorem dL_ask_27 : decode cL_ask 27 = .ok (.astore 7, 2) := by decide +kernel
theorem dL_ask_29 : decode cL_ask 29 = .ok (.iconst 3, 1) := by decide +kernel
theorem dL_ask_30 : decode cL_ask 30 = .ok (.ireturn, 1) := by decide +kernel
theorem dL_ask_31 : decode cL_ask 31 = .ok (.iconst 0, 1) := by decide +kernel
theorem dL_ask_32 : decode cL_ask 32 = .ok (.ireturn, 1) := by decide +kernel
theorem dL_give_0 : decode cL_give 0 = .ok (.aload_n 3, 1) := by decide +kernel
theorem dL_give_1 : decode cL_give 1 = .ok (.iconst 0, 1) := by decide +kernel
theorem dL_give_2 : decode cL_give 2 = .ok (.aload_n 0, 1) := by decide +kernel
theorem dL_give_3 : decode cL_give 3 = .ok (.iload_n 1, 1) := by decide +kernel
theorem dL_give_4 : decode cL_give 4 = .ok (.iload_n 2, 1) := by decide +kernel
theorem dL_give_5 : decode cL_give 5 = .ok (.invokevirtual 50, 3) := by decide +kernel
theorem dL_give_8 : decode cL_give 8 = .ok (.i2l, 1) := by decide +kernel
theorem dL_give_9 : decode cL_give 9 = .ok (.lastore, 1) := by decide +kernel
theorem dL_give_10 : decode cL_give 10 = .ok (.goto 15, 3) := by decide +kernel
theorem dL_give_13 : decode cL_give 13 = .ok (.astore 4, 2) := by decide +kernel
theorem dL_give_15 : decode cL_give 15 = .ok (.iconst 1, 1) := by decide +kernel
theorem dL_give_16 : decode cL_give 16 = .ok (.ireturn, 1) := by decide +kernel
theorem dL_give_17 : decode cL_give 17 = .ok (.astore 4, 2) := by decide +kernel
theorem dL_give_19 : decode cL_give 19 = .ok (.iconst 2, 1) := by decide +kernel
theorem dL_give_20 : decode cL_give 20 = .ok (.ireturn, 1) := by decide +kernel
theorem dL_give_21 : decode cL_give 21 = .ok (.astore 4, 2) := by decide +kernel
theorem dL_give_23 : decode cL_give 23 = .ok (.iconst 3, 1) := by decide +kernel
theorem dL_give_24 : decode cL_give 24 = .ok (.ireturn, 1) := by decide +kernel
theorem dL_give_25 : decode cL_give 25 = .ok (.iconst 0, 1) := by decide +kernel
theorem dL_give_26 : decode cL_give 26 = .ok (.ireturn, 1) := by decide +kernel
theorem dL_hands_0 : decode cL_hands 0 = .ok (.aload_n 0, 1) := by decide +kernel
theorem dL_hands_1 : decode cL_hands 1 = .ok (.iload_n 1, 1) := by decide +kernel
theorem dL_hands_2 : decode cL_hands 2 = .ok (.iload_n 2, 1) := by decide +kernel
theorem dL_hands_3 : decode cL_hands 3 = .ok (.invokevirtual 55, 3) := by decide +kernel
theorem dL_hands_6 : decode cL_hands 6 = .ok (.goto 9, 3) := by decide +kernel
theorem dL_hands_9 : decode cL_hands 9 = .ok (.astore_n 3, 1) := by decide +kernel
theorem dL_hands_10 : decode cL_hands 10 = .ok (.iconst 1, 1) := by decide +kernel
theorem dL_hands_11 : decode cL_hands 11 = .ok (.ireturn, 1) := by decide +kernel
theorem dL_hands_12 : decode cL_hands 12 = .ok (.astore_n 3, 1) := by decide +kernel
theorem dL_hands_13 : decode cL_hands 13 = .ok (.iconst 2, 1) := by decide +kernel
theorem dL_hands_14 : decode cL_hands 14 = .ok (.ireturn, 1) := by decide +kernel
theorem dL_hands_15 : decode cL_hands 15 = .ok (.iconst 0, 1) := by decide +kernel
theorem dL_hands_16 : decode cL_hands 16 = .ok (.ireturn, 1) := by decide +kernel
theorem dL_lend_0 : decode cL_lend 0 = .ok (.aload 6, 2) := by decide +kernel
theorem dL_lend_2 : decode cL_lend 2 = .ok (.iconst 0, 1) := by decide +kernel
theorem dL_lend_3 : decode cL_lend 3 = .ok (.aload_n 0, 1) := by decide +kernel
theorem dL_lend_4 : decode cL_lend 4 = .ok (.iload_n 1, 1) := by decide +kernel
theorem dL_lend_5 : decode cL_lend 5 = .ok (.iload_n 2, 1) := by decide +kernel
theorem dL_lend_6 : decode cL_lend 6 = .ok (.iload_n 3, 1) := by decide +kernel
theorem dL_lend_7 : decode cL_lend 7 = .ok (.iload 4, 2) := by decide +kernel
theorem dL_lend_9 : decode cL_lend 9 = .ok (.iload 5, 2) := by decide +kernel
theorem dL_lend_11 : decode cL_lend 11 = .ok (.invokevirtual 59, 3) := by decide +kernel
theorem dL_lend_14 : decode cL_lend 14 = .ok (.i2l, 1) := by decide +kernel
theorem dL_lend_15 : decode cL_lend 15 = .ok (.lastore, 1) := by decide +kernel
theorem dL_lend_16 : decode cL_lend 16 = .ok (.goto 11, 3) := by decide +kernel
theorem dL_lend_19 : decode cL_lend 19 = .ok (.astore 7, 2) := by decide +kernel
theorem dL_lend_21 : decode cL_lend 21 = .ok (.iconst 1, 1) := by decide +kernel
theorem dL_lend_22 : decode cL_lend 22 = .ok (.ireturn, 1) := by decide +kernel
theorem dL_lend_23 : decode cL_lend 23 = .ok (.astore 7, 2) := by decide +kernel
theorem dL_lend_25 : decode cL_lend 25 = .ok (.iconst 2, 1) := by decide +kernel
theorem dL_lend_26 : decode cL_lend 26 = .ok (.ireturn, 1) := by decide +kernel
theorem dL_lend_27 : decode cL_lend 27 = .ok (.iconst 0, 1) := by decide +kernel
theorem dL_lend_28 : decode cL_lend 28 = .ok (.ireturn, 1) := by decide +kernel
theorem dL_units_0 : decode cL_units 0 = .ok (.aload_n 3, 1) := by decide +kernel
theorem dL_units_1 : decode cL_units 1 = .ok (.iconst 0, 1) := by decide +kernel
theorem dL_units_2 : decode cL_units 2 = .ok (.aload_n 0, 1) := by decide +kernel
theorem dL_units_3 : decode cL_units 3 = .ok (.iload_n 1, 1) := by decide +kernel
theorem dL_units_4 : decode cL_units 4 = .ok (.iload_n 2, 1) := by decide +kernel
theorem dL_units_5 : decode cL_units 5 = .ok (.invokevirtual 63, 3) := by decide +kernel
theorem dL_units_8 : decode cL_units 8 = .ok (.i2l, 1) := by decide +kernel
theorem dL_units_9 : decode cL_units 9 = .ok (.lastore, 1) := by decide +kernel
theorem dL_units_10 : decode cL_units 10 = .ok (.goto 7, 3) := by decide +kernel
theorem dL_units_13 : decode cL_units 13 = .ok (.astore 4, 2) := by decide +kernel
theorem dL_units_15 : decode cL_units 15 = .ok (.iconst 1, 1) := by decide +kernel
theorem dL_units_16 : decode cL_units 16 = .ok (.ireturn, 1) := by decide +kernel
theorem dL_units_17 : decode cL_units 17 = .ok (.iconst 0, 1) := by decide +kernel
theorem dL_units_18 : decode cL_units 18 = .ok (.ireturn, 1) := by decide +kernel
theorem dL_rules_0 : decode cL_rules 0 = .ok (.aload_n 0, 1) := by decide +kernel
theorem dL_rules_1 : decode cL_rules 1 = .ok (.iload_n 1, 1) := by decide +kernel
theorem dL_rules_2 : decode cL_rules 2 = .ok (.iload_n 2, 1) := by decide +kernel
theorem dL_rules_3 : decode cL_rules 3 = .ok (.iload_n 3, 1) := by decide +kernel
theorem dL_rules_4 : decode cL_rules 4 = .ok (.iload 4, 2) := by decide +kernel
theorem dL_rules_6 : decode cL_rules 6 = .ok (.iload 5, 2) := by decide +kernel
theorem dL_rules_8 : decode cL_rules 8 = .ok (.invokevirtual 66, 3) := by decide +kernel
theorem dL_rules_11 : decode cL_rules 11 = .ok (.goto 7, 3) := by decide +kernel
theorem dL_rules_14 : decode cL_rules 14 = .ok (.astore 6, 2) := by decide +kernel
theorem dL_rules_16 : decode cL_rules 16 = .ok (.iconst 1, 1) := by decide +kernel
theorem dL_rules_17 : decode cL_rules 17 = .ok (.ireturn, 1) := by decide +kernel
theorem dL_rules_18 : decode cL_rules 18 = .ok (.iconst 0, 1) := by decide +kernel
theorem dL_rules_19 : decode cL_rules 19 = .ok (.ireturn, 1) := by decide +kernel
theorem dL_order_0 : decode cL_order 0 = .ok (.aload_n 0, 1) := by decide +kernel
theorem dL_order_1 : decode cL_order 1 = .ok (.iload_n 1, 1) := by decide +kernel
theorem dL_order_2 : decode cL_order 2 = .ok (.invokevirtual 70, 3) := by decide +kernel
theorem dL_order_5 : decode cL_order 5 = .ok (.goto 6, 3) := by decide +kernel
theorem dL_order_8 : decode cL_order 8 = .ok (.astore_n 2, 1) := by decide +kernel
theorem dL_order_9 : decode cL_order 9 = .ok (.iconst 1, 1) := by decide +kernel
theorem dL_order_10 : decode cL_order 10 = .ok (.ireturn, 1) := by decide +kernel
theorem dL_order_11 : decode cL_order 11 = .ok (.iconst 0, 1) := by decide +kernel
theorem dL_order_12 : decode cL_order 12 = .ok (.ireturn, 1) := by decide +kernel
theorem dL_blanks_0 : decode cL_blanks 0 = .ok (.aload_n 2, 1) := by decide +kernel
theorem dL_blanks_1 : decode cL_blanks 1 = .ok (.iconst 0, 1) := by decide +kernel
theorem dL_blanks_2 : decode cL_blanks 2 = .ok (.aload_n 0, 1) := by decide +kernel
theorem dL_blanks_3 : decode cL_blanks 3 = .ok (.iload_n 1, 1) := by decide +kernel
theorem dL_blanks_4 : decode cL_blanks 4 = .ok (.invokevirtual 74, 3) := by decide +kernel
theorem dL_blanks_7 : decode cL_blanks 7 = .ok (.i2l, 1) := by decide +kernel
theorem dL_blanks_8 : decode cL_blanks 8 = .ok (.lastore, 1) := by decide +kernel
theorem dL_blanks_9 : decode cL_blanks 9 = .ok (.goto 6, 3) := by decide +kernel
theorem dL_blanks_12 : decode cL_blanks 12 = .ok (.astore_n 3, 1) := by decide +kernel
theorem dL_blanks_13 : decode cL_blanks 13 = .ok (.iconst 1, 1) := by decide +kernel
theorem dL_blanks_14 : decode cL_blanks 14 = .ok (.ireturn, 1) := by decide +kernel
theorem dL_blanks_15 : decode cL_blanks 15 = .ok (.iconst 0, 1) := by decide +kernel
theorem dL_blanks_16 : decode cL_blanks 16 = .ok (.ireturn, 1) := by decide +kernel
theorem dL_broken_0 : decode cL_broken 0 = .ok (.aload_n 0, 1) := by decide +kernel
theorem dL_broken_1 : decode cL_broken 1 = .ok (.iload_n 1, 1) := by decide +kernel
theorem dL_broken_2 : decode cL_broken 2 = .ok (.iload_n 2, 1) := by decide +kernel
theorem dL_broken_3 : decode cL_broken 3 = .ok (.invokevirtual 77, 3) := by decide +kernel
theorem dL_broken_6 : decode cL_broken 6 = .ok (.goto 6, 3) := by decide +kernel
theorem dL_broken_9 : decode cL_broken 9 = .ok (.astore_n 3, 1) := by decide +kernel
theorem dL_broken_10 : decode cL_broken 10 = .ok (.iconst 1, 1) := by decide +kernel
theorem dL_broken_11 : decode cL_broken 11 = .ok (.ireturn, 1) := by decide +kernel
theorem dL_broken_12 : decode cL_broken 12 = .ok (.iconst 0, 1) := by decide +kernel
theorem dL_broken_13 : decode cL_broken 13 = .ok (.ireturn, 1) := by decide +kernel
theorem dL_days_0 : decode cL_days 0 = .ok (.aload_n 2, 1) := by decide +kernel
theorem dL_days_1 : decode cL_days 1 = .ok (.iconst 0, 1) := by decide +kernel
theorem dL_days_2 : decode cL_days 2 = .ok (.aload_n 0, 1) := by decide +kernel
theorem dL_days_3 : decode cL_days 3 = .ok (.iload_n 1, 1) := by decide +kernel
theorem dL_days_4 : decode cL_days 4 = .ok (.invokevirtual 80, 3) := by decide +kernel
theorem dL_days_7 : decode cL_days 7 = .ok (.i2l, 1) := by decide +kernel
theorem dL_days_8 : decode cL_days 8 = .ok (.lastore, 1) := by decide +kernel
theorem dL_days_9 : decode cL_days 9 = .ok (.goto 6, 3) := by decide +kernel
theorem dL_days_12 : decode cL_days 12 = .ok (.astore_n 3, 1) := by decide +kernel
theorem dL_days_13 : decode cL_days 13 = .ok (.iconst 1, 1) := by decide +kernel
theorem dL_days_14 : decode cL_days 14 = .ok (.ireturn, 1) := by decide +kernel
theorem dL_days_15 : decode cL_days 15 = .ok (.iconst 0, 1) := by decide +kernel
theorem dL_days_16 : decode cL_days 16 = .ok (.ireturn, 1) := by decide +kernel
theorem dL_refuse_0 : decode cL_refuse 0 = .ok (.aload_n 0, 1) := by decide +kernel
theorem dL_refuse_1 : decode cL_refuse 1 = .ok (.iload_n 1, 1) := by decide +kernel
theorem dL_refuse_2 : decode cL_refuse 2 = .ok (.invokevirtual 83, 3) := by decide +kernel
theorem dL_refuse_5 : decode cL_refuse 5 = .ok (.goto 9, 3) := by decide +kernel
theorem dL_refuse_8 : decode cL_refuse 8 = .ok (.astore_n 2, 1) := by decide +kernel
theorem dL_refuse_9 : decode cL_refuse 9 = .ok (.iconst 1, 1) := by decide +kernel
theorem dL_refuse_10 : decode cL_refuse 10 = .ok (.ireturn, 1) := by decide +kernel
theorem dL_refuse_11 : decode cL_refuse 11 = .ok (.astore_n 2, 1) := by decide +kernel
theorem dL_refuse_12 : decode cL_refuse 12 = .ok (.iconst 2, 1) := by decide +kernel
theorem dL_refuse_13 : decode cL_refuse 13 = .ok (.ireturn, 1) := by decide +kernel
theorem dL_refuse_14 : decode cL_refuse 14 = .ok (.iconst 0, 1) := by decide +kernel
theorem dL_refuse_15 : decode cL_refuse 15 = .ok (.ireturn, 1) := by decide +kernel
theorem dL_lose_0 : decode cL_lose 0 = .ok (.aload_n 0, 1) := by decide +kernel
theorem dL_lose_1 : decode cL_lose 1 = .ok (.iload_n 1, 1) := by decide +kernel
theorem dL_lose_2 : decode cL_lose 2 = .ok (.invokevirtual 86, 3) := by decide +kernel
theorem dL_lose_5 : decode cL_lose 5 = .ok (.goto 9, 3) := by decide +kernel
theorem dL_lose_8 : decode cL_lose 8 = .ok (.astore_n 2, 1) := by decide +kernel
theorem dL_lose_9 : decode cL_lose 9 = .ok (.iconst 1, 1) := by decide +kernel
theorem dL_lose_10 : decode cL_lose 10 = .ok (.ireturn, 1) := by decide +kernel
theorem dL_lose_11 : decode cL_lose 11 = .ok (.astore_n 2, 1) := by decide +kernel
theorem dL_lose_12 : decode cL_lose 12 = .ok (.iconst 2, 1) := by decide +kernel
theorem dL_lose_13 : decode cL_lose 13 = .ok (.ireturn, 1) := by decide +kernel
theorem dL_lose_14 : decode cL_lose 14 = .ok (.iconst 0, 1) := by decide +kernel
theorem dL_lose_15 : decode cL_lose 15 = .ok (.ireturn, 1) := by decide +kernel
theorem dL_again_0 : decode cL_again 0 = .ok (.aload_n 0, 1) := by decide +kernel
theorem dL_again_1 : decode cL_again 1 = .ok (.iload_n 1, 1) := by decide +kernel
theorem dL_again_2 : decode cL_again 2 = .ok (.invokevirtual 89, 3) := by decide +kernel
theorem dL_again_5 : decode cL_again 5 = .ok (.goto 9, 3) := by decide +kernel
theorem dL_again_8 : decode cL_again 8 = .ok (.astore_n 2, 1) := by decide +kernel
theorem dL_again_9 : decode cL_again 9 = .ok (.iconst 1, 1) := by decide +kernel
theorem dL_again_10 : decode cL_again 10 = .ok (.ireturn, 1) := by decide +kernel
theorem dL_again_11 : decode cL_again 11 = .ok (.astore_n 2, 1) := by decide +kernel
theorem dL_again_12 : decode cL_again 12 = .ok (.iconst 2, 1) := by decide +kernel
theorem dL_again_13 : decode cL_again 13 = .ok (.ireturn, 1) := by decide +kernel
theorem dL_again_14 : decode cL_again 14 = .ok (.iconst 0, 1) := by decide +kernel
theorem dL_again_15 : decode cL_again 15 = .ok (.ireturn, 1) := by decide +kernel
theorem dL_led_0 : decode cL_led 0 = .ok (.aload_n 3, 1) := by decide +kernel
theorem dL_led_1 : decode cL_led 1 = .ok (.iconst 0, 1) := by decide +kernel
theorem dL_led_2 : decode cL_led 2 = .ok (.aload_n 0, 1) := by decide +kernel
theorem dL_led_3 : decode cL_led 3 = .ok (.iload_n 1, 1) := by decide +kernel
theorem dL_led_4 : decode cL_led 4 = .ok (.iload_n 2, 1) := by decide +kernel
theorem dL_led_5 : decode cL_led 5 = .ok (.invokevirtual 92, 3) := by decide +kernel
theorem dL_led_8 : decode cL_led 8 = .ok (.i2l, 1) := by decide +kernel
theorem dL_led_9 : decode cL_led 9 = .ok (.lastore, 1) := by decide +kernel
theorem dL_led_10 : decode cL_led 10 = .ok (.goto 11, 3) := by decide +kernel
theorem dL_led_13 : decode cL_led 13 = .ok (.astore 4, 2) := by decide +kernel
theorem dL_led_15 : decode cL_led 15 = .ok (.iconst 1, 1) := by decide +kernel
theorem dL_led_16 : decode cL_led 16 = .ok (.ireturn, 1) := by decide +kernel
theorem dL_led_17 : decode cL_led 17 = .ok (.astore 4, 2) := by decide +kernel
theorem dL_led_19 : decode cL_led 19 = .ok (.iconst 2, 1) := by decide +kernel
theorem dL_led_20 : decode cL_led 20 = .ok (.ireturn, 1) := by decide +kernel
theorem dL_led_21 : decode cL_led 21 = .ok (.iconst 0, 1) := by decide +kernel
theorem dL_led_22 : decode cL_led 22 = .ok (.ireturn, 1) := by decide +kernel
theorem dL_queue_0 : decode cL_queue 0 = .ok (.aload_n 2, 1) := by decide +kernel
theorem dL_queue_1 : decode cL_queue 1 = .ok (.iconst 0, 1) := by decide +kernel
theorem dL_queue_2 : decode cL_queue 2 = .ok (.aload_n 0, 1) := by decide +kernel
theorem dL_queue_3 : decode cL_queue 3 = .ok (.iload_n 1, 1) := by decide +kernel
theorem dL_queue_4 : decode cL_queue 4 = .ok (.invokevirtual 95, 3) := by decide +kernel
theorem dL_queue_7 : decode cL_queue 7 = .ok (.i2l, 1) := by decide +kernel
theorem dL_queue_8 : decode cL_queue 8 = .ok (.lastore, 1) := by decide +kernel
theorem dL_queue_9 : decode cL_queue 9 = .ok (.goto 6, 3) := by decide +kernel
theorem dL_queue_12 : decode cL_queue 12 = .ok (.astore_n 3, 1) := by decide +kernel
theorem dL_queue_13 : decode cL_queue 13 = .ok (.iconst 1, 1) := by decide +kernel
theorem dL_queue_14 : decode cL_queue 14 = .ok (.ireturn, 1) := by decide +kernel
theorem dL_queue_15 : decode cL_queue 15 = .ok (.iconst 0, 1) := by decide +kernel
theorem dL_queue_16 : decode cL_queue 16 = .ok (.ireturn, 1) := by decide +kernel
theorem dL_ahead_0 : decode cL_ahead 0 = .ok (.aload_n 2, 1) := by decide +kernel
theorem dL_ahead_1 : decode cL_ahead 1 = .ok (.iconst 0, 1) := by decide +kernel
theorem dL_ahead_2 : decode cL_ahead 2 = .ok (.aload_n 0, 1) := by decide +kernel
theorem dL_ahead_3 : decode cL_ahead 3 = .ok (.iload_n 1, 1) := by decide +kernel
theorem dL_ahead_4 : decode cL_ahead 4 = .ok (.invokevirtual 98, 3) := by decide +kernel
theorem dL_ahead_7 : decode cL_ahead 7 = .ok (.i2l, 1) := by decide +kernel
theorem dL_ahead_8 : decode cL_ahead 8 = .ok (.lastore, 1) := by decide +kernel
theorem dL_ahead_9 : decode cL_ahead 9 = .ok (.goto 6, 3) := by decide +kernel
theorem dL_ahead_12 : decode cL_ahead 12 = .ok (.astore_n 3, 1) := by decide +kernel
theorem dL_ahead_13 : decode cL_ahead 13 = .ok (.iconst 1, 1) := by decide +kernel
theorem dL_ahead_14 : decode cL_ahead 14 = .ok (.ireturn, 1) := by decide +kernel
theorem dL_ahead_15 : decode cL_ahead 15 = .ok (.iconst 0, 1) := by decide +kernel
theorem dL_ahead_16 : decode cL_ahead 16 = .ok (.ireturn, 1) := by decide +kernel
theorem dL_booklet_0 : decode cL_booklet 0 = .ok (.aload_n 3, 1) := by decide +kernel
theorem dL_booklet_1 : decode cL_booklet 1 = .ok (.iconst 0, 1) := by decide +kernel
theorem dL_booklet_2 : decode cL_booklet 2 = .ok (.aload_n 0, 1) := by decide +kernel
theorem dL_booklet_3 : decode cL_booklet 3 = .ok (.iload_n 1, 1) := by decide +kernel
theorem dL_booklet_4 : decode cL_booklet 4 = .ok (.iload_n 2, 1) := by decide +kernel
theorem dL_booklet_5 : decode cL_booklet 5 = .ok (.invokevirtual 101, 3) := by decide +kernel
theorem dL_booklet_8 : decode cL_booklet 8 = .ok (.i2l, 1) := by decide +kernel
theorem dL_booklet_9 : decode cL_booklet 9 = .ok (.lastore, 1) := by decide +kernel
theorem dL_booklet_10 : decode cL_booklet 10 = .ok (.goto 11, 3) := by decide +kernel
theorem dL_booklet_13 : decode cL_booklet 13 = .ok (.astore 4, 2) := by decide +kernel
theorem dL_booklet_15 : decode cL_booklet 15 = .ok (.iconst 1, 1) := by decide +kernel
theorem dL_booklet_16 : decode cL_booklet 16 = .ok (.ireturn, 1) := by decide +kernel
theorem dL_booklet_17 : decode cL_booklet 17 = .ok (.astore 4, 2) := by decide +kernel
theorem dL_booklet_19 : decode cL_booklet 19 = .ok (.iconst 2, 1) := by decide +kernel
theorem dL_booklet_20 : decode cL_booklet 20 = .ok (.ireturn, 1) := by decide +kernel
theorem dL_booklet_21 : decode cL_booklet 21 = .ok (.iconst 0, 1) := by decide +kernel
theorem dL_booklet_22 : decode cL_booklet 22 = .ok (.ireturn, 1) := by decide +kernel
theorem dL_valid_0 : decode cL_valid 0 = .ok (.aload_n 3, 1) := by decide +kernel
theorem dL_valid_1 : decode cL_valid 1 = .ok (.iconst 0, 1) := by decide +kernel
theorem dL_valid_2 : decode cL_valid 2 = .ok (.aload_n 0, 1) := by decide +kernel
theorem dL_valid_3 : decode cL_valid 3 = .ok (.iload_n 1, 1) := by decide +kernel
theorem dL_valid_4 : decode cL_valid 4 = .ok (.iload_n 2, 1) := by decide +kernel
theorem dL_valid_5 : decode cL_valid 5 = .ok (.invokevirtual 104, 3) := by decide +kernel
theorem dL_valid_8 : decode cL_valid 8 = .ok (.i2l, 1) := by decide +kernel
theorem dL_valid_9 : decode cL_valid 9 = .ok (.lastore, 1) := by decide +kernel
theorem dL_valid_10 : decode cL_valid 10 = .ok (.goto 7, 3) := by decide +kernel
theorem dL_valid_13 : decode cL_valid 13 = .ok (.astore 4, 2) := by decide +kernel
theorem dL_valid_15 : decode cL_valid 15 = .ok (.iconst 1, 1) := by decide +kernel
theorem dL_valid_16 : decode cL_valid 16 = .ok (.ireturn, 1) := by decide +kernel
theorem dL_valid_17 : decode cL_valid 17 = .ok (.iconst 0, 1) := by decide +kernel
theorem dL_valid_18 : decode cL_valid 18 = .ok (.ireturn, 1) := by decide +kernel
theorem dL_missed_0 : decode cL_missed 0 = .ok (.aload_n 3, 1) := by decide +kernel
theorem dL_missed_1 : decode cL_missed 1 = .ok (.iconst 0, 1) := by decide +kernel
theorem dL_missed_2 : decode cL_missed 2 = .ok (.aload_n 0, 1) := by decide +kernel
theorem dL_missed_3 : decode cL_missed 3 = .ok (.iload_n 1, 1) := by decide +kernel
theorem dL_missed_4 : decode cL_missed 4 = .ok (.iload_n 2, 1) := by decide +kernel
theorem dL_missed_5 : decode cL_missed 5 = .ok (.invokevirtual 107, 3) := by decide +kernel
theorem dL_missed_8 : decode cL_missed 8 = .ok (.i2l, 1) := by decide +kernel
theorem dL_missed_9 : decode cL_missed 9 = .ok (.lastore, 1) := by decide +kernel
theorem dL_missed_10 : decode cL_missed 10 = .ok (.goto 7, 3) := by decide +kernel
theorem dL_missed_13 : decode cL_missed 13 = .ok (.astore 4, 2) := by decide +kernel
theorem dL_missed_15 : decode cL_missed 15 = .ok (.iconst 1, 1) := by decide +kernel
theorem dL_missed_16 : decode cL_missed 16 = .ok (.ireturn, 1) := by decide +kernel
theorem dL_missed_17 : decode cL_missed 17 = .ok (.iconst 0, 1) := by decide +kernel
theorem dL_missed_18 : decode cL_missed 18 = .ok (.ireturn, 1) := by decide +kernel
theorem dL_waits_0 : decode cL_waits 0 = .ok (.aload_n 3, 1) := by decide +kernel
theorem dL_waits_1 : decode cL_waits 1 = .ok (.iconst 0, 1) := by decide +kernel
theorem dL_waits_2 : decode cL_waits 2 = .ok (.aload_n 0, 1) := by decide +kernel
theorem dL_waits_3 : decode cL_waits 3 = .ok (.iload_n 1, 1) := by decide +kernel
theorem dL_waits_4 : decode cL_waits 4 = .ok (.iload_n 2, 1) := by decide +kernel
theorem dL_waits_5 : decode cL_waits 5 = .ok (.invokevirtual 110, 3) := by decide +kernel
theorem dL_waits_8 : decode cL_waits 8 = .ok (.i2l, 1) := by decide +kernel
theorem dL_waits_9 : decode cL_waits 9 = .ok (.lastore, 1) := by decide +kernel
theorem dL_waits_10 : decode cL_waits 10 = .ok (.goto 7, 3) := by decide +kernel
theorem dL_waits_13 : decode cL_waits 13 = .ok (.astore 4, 2) := by decide +kernel
theorem dL_waits_15 : decode cL_waits 15 = .ok (.iconst 1, 1) := by decide +kernel
theorem dL_waits_16 : decode cL_waits 16 = .ok (.ireturn, 1) := by decide +kernel
theorem dL_waits_17 : decode cL_waits 17 = .ok (.iconst 0, 1) := by decide +kernel
theorem dL_waits_18 : decode cL_waits 18 = .ok (.ireturn, 1) := by decide +kernel
