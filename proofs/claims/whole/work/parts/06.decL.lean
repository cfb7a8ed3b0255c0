theorem dL_number_0 : decode cL_number 0 = .ok (.aload_n 2, 1) := by decide +kernel
theorem dL_number_1 : decode cL_number 1 = .ok (.iconst 0, 1) := by decide +kernel
theorem dL_number_2 : decode cL_number 2 = .ok (.aload_n 0, 1) := by decide +kernel
theorem dL_number_3 : decode cL_number 3 = .ok (.iload_n 1, 1) := by decide +kernel
theorem dL_number_4 : decode cL_number 4 = .ok (.invokevirtual 7, 3) := by decide +kernel
theorem dL_number_7 : decode cL_number 7 = .ok (.i2l, 1) := by decide +kernel
theorem dL_number_8 : decode cL_number 8 = .ok (.lastore, 1) := by decide +kernel
theorem dL_number_9 : decode cL_number 9 = .ok (.goto 9, 3) := by decide +kernel
theorem dL_number_12 : decode cL_number 12 = .ok (.astore_n 3, 1) := by decide +kernel
theorem dL_number_13 : decode cL_number 13 = .ok (.iconst 1, 1) := by decide +kernel
theorem dL_number_14 : decode cL_number 14 = .ok (.ireturn, 1) := by decide +kernel
theorem dL_number_15 : decode cL_number 15 = .ok (.astore_n 3, 1) := by decide +kernel
theorem dL_number_16 : decode cL_number 16 = .ok (.iconst 2, 1) := by decide +kernel
theorem dL_number_17 : decode cL_number 17 = .ok (.ireturn, 1) := by decide +kernel
theorem dL_number_18 : decode cL_number 18 = .ok (.iconst 0, 1) := by decide +kernel
theorem dL_number_19 : decode cL_number 19 = .ok (.ireturn, 1) := by decide +kernel
theorem dL_draft_0 : decode cL_draft 0 = .ok (.aload_n 3, 1) := by decide +kernel
theorem dL_draft_1 : decode cL_draft 1 = .ok (.iconst 0, 1) := by decide +kernel
theorem dL_draft_2 : decode cL_draft 2 = .ok (.aload_n 0, 1) := by decide +kernel
theorem dL_draft_3 : decode cL_draft 3 = .ok (.iload_n 1, 1) := by decide +kernel
theorem dL_draft_4 : decode cL_draft 4 = .ok (.iload_n 2, 1) := by decide +kernel
theorem dL_draft_5 : decode cL_draft 5 = .ok (.invokevirtual 17, 3) := by decide +kernel
theorem dL_draft_8 : decode cL_draft 8 = .ok (.i2l, 1) := by decide +kernel
theorem dL_draft_9 : decode cL_draft 9 = .ok (.lastore, 1) := by decide +kernel
theorem dL_draft_10 : decode cL_draft 10 = .ok (.goto 15, 3) := by decide +kernel
theorem dL_draft_13 : decode cL_draft 13 = .ok (.astore 4, 2) := by decide +kernel
theorem dL_draft_15 : decode cL_draft 15 = .ok (.iconst 1, 1) := by decide +kernel
theorem dL_draft_16 : decode cL_draft 16 = .ok (.ireturn, 1) := by decide +kernel
theorem dL_draft_17 : decode cL_draft 17 = .ok (.astore 4, 2) := by decide +kernel
theorem dL_draft_19 : decode cL_draft 19 = .ok (.iconst 2, 1) := by decide +kernel
theorem dL_draft_20 : decode cL_draft 20 = .ok (.ireturn, 1) := by decide +kernel
theorem dL_draft_21 : decode cL_draft 21 = .ok (.astore 4, 2) := by decide +kernel
theorem dL_draft_23 : decode cL_draft 23 = .ok (.iconst 3, 1) := by decide +kernel
theorem dL_draft_24 : decode cL_draft 24 = .ok (.ireturn, 1) := by decide +kernel
theorem dL_draft_25 : decode cL_draft 25 = .ok (.iconst 0, 1) := by decide +kernel
theorem dL_draft_26 : decode cL_draft 26 = .ok (.ireturn, 1) := by decide +kernel
theorem dL_make_0 : decode cL_make 0 = .ok (.aload_n 1, 1) := by decide +kernel
theorem dL_make_1 : decode cL_make 1 = .ok (.iconst 0, 1) := by decide +kernel
theorem dL_make_2 : decode cL_make 2 = .ok (.aload_n 0, 1) := by decide +kernel
theorem dL_make_3 : decode cL_make 3 = .ok (.invokevirtual 23, 3) := by decide +kernel
theorem dL_make_6 : decode cL_make 6 = .ok (.i2l, 1) := by decide +kernel
theorem dL_make_7 : decode cL_make 7 = .ok (.lastore, 1) := by decide +kernel
theorem dL_make_8 : decode cL_make 8 = .ok (.goto 6, 3) := by decide +kernel
theorem dL_make_11 : decode cL_make 11 = .ok (.astore_n 2, 1) := by decide +kernel
theorem dL_make_12 : decode cL_make 12 = .ok (.iconst 1, 1) := by decide +kernel
theorem dL_make_13 : decode cL_make 13 = .ok (.ireturn, 1) := by decide +kernel
theorem dL_make_14 : decode cL_make 14 = .ok (.iconst 0, 1) := by decide +kernel
theorem dL_make_15 : decode cL_make 15 = .ok (.ireturn, 1) := by decide +kernel
theorem dL_negative_0 : decode cL_negative 0 = .ok (.aload_n 2, 1) := by decide +kernel
theorem dL_negative_1 : decode cL_negative 1 = .ok (.iconst 0, 1) := by decide +kernel
theorem dL_negative_2 : decode cL_negative 2 = .ok (.aload_n 0, 1) := by decide +kernel
theorem dL_negative_3 : decode cL_negative 3 = .ok (.iload_n 1, 1) := by decide +kernel
theorem dL_negative_4 : decode cL_negative 4 = .ok (.invokevirtual 27, 3) := by decide +kernel
theorem dL_negative_7 : decode cL_negative 7 = .ok (.i2l, 1) := by decide +kernel
theorem dL_negative_8 : decode cL_negative 8 = .ok (.lastore, 1) := by decide +kernel
theorem dL_negative_9 : decode cL_negative 9 = .ok (.goto 9, 3) := by decide +kernel
theorem dL_negative_12 : decode cL_negative 12 = .ok (.astore_n 3, 1) := by decide +kernel
theorem dL_negative_13 : decode cL_negative 13 = .ok (.iconst 1, 1) := by decide +kernel
theorem dL_negative_14 : decode cL_negative 14 = .ok (.ireturn, 1) := by decide +kernel
theorem dL_negative_15 : decode cL_negative 15 = .ok (.astore_n 3, 1) := by decide +kernel
theorem dL_negative_16 : decode cL_negative 16 = .ok (.iconst 2, 1) := by decide +kernel
theorem dL_negative_17 : decode cL_negative 17 = .ok (.ireturn, 1) := by decide +kernel
theorem dL_negative_18 : decode cL_negative 18 = .ok (.iconst 0, 1) := by decide +kernel
theorem dL_negative_19 : decode cL_negative 19 = .ok (.ireturn, 1) := by decide +kernel
theorem dL_options_0 : decode cL_options 0 = .ok (.aload_n 3, 1) := by decide +kernel
theorem dL_options_1 : decode cL_options 1 = .ok (.iconst 0, 1) := by decide +kernel
theorem dL_options_2 : decode cL_options 2 = .ok (.aload_n 0, 1) := by decide +kernel
theorem dL_options_3 : decode cL_options 3 = .ok (.iload_n 1, 1) := by decide +kernel
theorem dL_options_4 : decode cL_options 4 = .ok (.iload_n 2, 1) := by decide +kernel
theorem dL_options_5 : decode cL_options 5 = .ok (.invokevirtual 30, 3) := by decide +kernel
theorem dL_options_8 : decode cL_options 8 = .ok (.i2l, 1) := by decide +kernel
theorem dL_options_9 : decode cL_options 9 = .ok (.lastore, 1) := by decide +kernel
theorem dL_options_10 : decode cL_options 10 = .ok (.goto 11, 3) := by decide +kernel
theorem dL_options_13 : decode cL_options 13 = .ok (.astore 4, 2) := by decide +kernel
theorem dL_options_15 : decode cL_options 15 = .ok (.iconst 1, 1) := by decide +kernel
theorem dL_options_16 : decode cL_options 16 = .ok (.ireturn, 1) := by decide +kernel
theorem dL_options_17 : decode cL_options 17 = .ok (.astore 4, 2) := by decide +kernel
theorem dL_options_19 : decode cL_options 19 = .ok (.iconst 2, 1) := by decide +kernel
theorem dL_options_20 : decode cL_options 20 = .ok (.ireturn, 1) := by decide +kernel
theorem dL_options_21 : decode cL_options 21 = .ok (.iconst 0, 1) := by decide +kernel
theorem dL_options_22 : decode cL_options 22 = .ok (.ireturn, 1) := by decide +kernel
theorem dL_option_0 : decode cL_option 0 = .ok (.aload 4, 2) := by decide +kernel
theorem dL_option_2 : decode cL_option 2 = .ok (.iconst 0, 1) := by decide +kernel
theorem dL_option_3 : decode cL_option 3 = .ok (.aload_n 0, 1) := by decide +kernel
theorem dL_option_4 : decode cL_option 4 = .ok (.iload_n 1, 1) := by decide +kernel
theorem dL_option_5 : decode cL_option 5 = .ok (.iload_n 2, 1) := by decide +kernel
theorem dL_option_6 : decode cL_option 6 = .ok (.iload_n 3, 1) := by decide +kernel
theorem dL_option_7 : decode cL_option 7 = .ok (.invokevirtual 33, 3) := by decide +kernel
theorem dL_option_10 : decode cL_option 10 = .ok (.i2l, 1) := by decide +kernel
theorem dL_option_11 : decode cL_option 11 = .ok (.lastore, 1) := by decide +kernel
theorem dL_option_12 : decode cL_option 12 = .ok (.goto 11, 3) := by decide +kernel
theorem dL_option_15 : decode cL_option 15 = .ok (.astore 5, 2) := by decide +kernel
theorem dL_option_17 : decode cL_option 17 = .ok (.iconst 1, 1) := by decide +kernel
theorem dL_option_18 : decode cL_option 18 = .ok (.ireturn, 1) := by decide +kernel
theorem dL_option_19 : decode cL_option 19 = .ok (.astore 5, 2) := by decide +kernel
theorem dL_option_21 : decode cL_option 21 = .ok (.iconst 2, 1) := by decide +kernel
theorem dL_option_22 : decode cL_option 22 = .ok (.ireturn, 1) := by decide +kernel
theorem dL_option_23 : decode cL_option 23 = .ok (.iconst 0, 1) := by decide +kernel
theorem dL_option_24 : decode cL_option 24 = .ok (.ireturn, 1) := by decide +kernel
theorem dL_depth_0 : decode cL_depth 0 = .ok (.aload_n 2, 1) := by decide +kernel
theorem dL_depth_1 : decode cL_depth 1 = .ok (.iconst 0, 1) := by decide +kernel
theorem dL_depth_2 : decode cL_depth 2 = .ok (.aload_n 0, 1) := by decide +kernel
theorem dL_depth_3 : decode cL_depth 3 = .ok (.iload_n 1, 1) := by decide +kernel
theorem dL_depth_4 : decode cL_depth 4 = .ok (.invokevirtual 37, 3) := by decide +kernel
theorem dL_depth_7 : decode cL_depth 7 = .ok (.i2l, 1) := by decide +kernel
theorem dL_depth_8 : decode cL_depth 8 = .ok (.lastore, 1) := by decide +kernel
theorem dL_depth_9 : decode cL_depth 9 = .ok (.goto 6, 3) := by decide +kernel
theorem dL_depth_12 : decode cL_depth 12 = .ok (.astore_n 3, 1) := by decide +kernel
theorem dL_depth_13 : decode cL_depth 13 = .ok (.iconst 1, 1) := by decide +kernel
theorem dL_depth_14 : decode cL_depth 14 = .ok (.ireturn, 1) := by decide +kernel
theorem dL_depth_15 : decode cL_depth 15 = .ok (.iconst 0, 1) := by decide +kernel
theorem dL_depth_16 : decode cL_depth 16 = .ok (.ireturn, 1) := by decide +kernel
theorem dL_compare_0 : decode cL_compare 0 = .ok (.aload_n 3, 1) := by decide +kernel
theorem dL_compare_1 : decode cL_compare 1 = .ok (.iconst 0, 1) := by decide +kernel
theorem dL_compare_2 : decode cL_compare 2 = .ok (.aload_n 0, 1) := by decide +kernel
theorem dL_compare_3 : decode cL_compare 3 = .ok (.iload_n 1, 1) := by decide +kernel
theorem dL_compare_4 : decode cL_compare 4 = .ok (.iload_n 2, 1) := by decide +kernel
theorem dL_compare_5 : decode cL_compare 5 = .ok (.invokevirtual 40, 3) := by decide +kernel
theorem dL_compare_8 : decode cL_compare 8 = .ok (.i2l, 1) := by decide +kernel
theorem dL_compare_9 : decode cL_compare 9 = .ok (.lastore, 1) := by decide +kernel
theorem dL_compare_10 : decode cL_compare 10 = .ok (.goto 7, 3) := by decide +kernel
theorem dL_compare_13 : decode cL_compare 13 = .ok (.astore 4, 2) := by decide +kernel
theorem dL_compare_15 : decode cL_compare 15 = .ok (.iconst 1, 1) := by decide +kernel
theorem dL_compare_16 : decode cL_compare 16 = .ok (.ireturn, 1) := by decide +kernel
theorem dL_compare_17 : decode cL_compare 17 = .ok (.iconst 0, 1) := by decide +kernel
theorem dL_compare_18 : decode cL_compare 18 = .ok (.ireturn, 1) := by decide +kernel
theorem dL_isCold_0 : decode cL_isCold 0 = .ok (.aload_n 2, 1) := by decide +kernel
theorem dL_isCold_1 : decode cL_isCold 1 = .ok (.iconst 0, 1) := by decide +kernel
theorem dL_isCold_2 : decode cL_isCold 2 = .ok (.aload_n 0, 1) := by decide +kernel
theorem dL_isCold_3 : decode cL_isCold 3 = .ok (.iload_n 1, 1) := by decide +kernel
theorem dL_isCold_4 : decode cL_isCold 4 = .ok (.invokevirtual 43, 3) := by decide +kernel
theorem dL_isCold_7 : decode cL_isCold 7 = .ok (.ifCond .eq 7, 3) := by decide +kernel
theorem dL_isCold_10 : decode cL_isCold 10 = .ok (.lconst 1, 1) := by decide +kernel
theorem dL_isCold_11 : decode cL_isCold 11 = .ok (.goto 4, 3) := by decide +kernel
theorem dL_isCold_14 : decode cL_isCold 14 = .ok (.lconst 0, 1) := by decide +kernel
theorem dL_isCold_15 : decode cL_isCold 15 = .ok (.lastore, 1) := by decide +kernel
theorem dL_isCold_16 : decode cL_isCold 16 = .ok (.goto 6, 3) := by decide +kernel
theorem dL_isCold_19 : decode cL_isCold 19 = .ok (.astore_n 3, 1) := by decide +kernel
theorem dL_isCold_20 : decode cL_isCold 20 = .ok (.iconst 1, 1) := by decide +kernel
theorem dL_isCold_21 : decode cL_isCold 21 = .ok (.ireturn, 1) := by decide +kernel
theorem dL_isCold_22 : decode cL_isCold 22 = .ok (.iconst 0, 1) := by decide +kernel
theorem dL_isCold_23 : decode cL_isCold 23 = .ok (.ireturn, 1) := by decide +kernel
theorem dL_value_0 : decode cL_value 0 = .ok (.aload_n 2, 1) := by decide +kernel
theorem dL_value_1 : decode cL_value 1 = .ok (.iconst 0, 1) := by decide +kernel
theorem dL_value_2 : decode cL_value 2 = .ok (.aload_n 0, 1) := by decide +kernel
theorem dL_value_3 : decode cL_value 3 = .ok (.iload_n 1, 1) := by decide +kernel
theorem dL_value_4 : decode cL_value 4 = .ok (.invokevirtual 47, 3) := by decide +kernel
theorem dL_value_7 : decode cL_value 7 = .ok (.i2l, 1) := by decide +kernel
theorem dL_value_8 : decode cL_value 8 = .ok (.lastore, 1) := by decide +kernel
theorem dL_value_9 : decode cL_value 9 = .ok (.goto 9, 3) := by decide +kernel
theorem dL_value_12 : decode cL_value 12 = .ok (.astore_n 3, 1) := by decide +kernel
theorem dL_value_13 : decode cL_value 13 = .ok (.iconst 1, 1) := by decide +kernel
theorem dL_value_14 : decode cL_value 14 = .ok (.ireturn, 1) := by decide +kernel
theorem dL_value_15 : decode cL_value 15 = .ok (.astore_n 3, 1) := by decide +kernel
theorem dL_value_16 : decode cL_value 16 = .ok (.iconst 2, 1) := by decide +kernel
theorem dL_value_17 : decode cL_value 17 = .ok (.ireturn, 1) := by decide +kernel
theorem dL_value_18 : decode cL_value 18 = .ok (.iconst 0, 1) := by decide +kernel
theorem dL_value_19 : decode cL_value 19 = .ok (.ireturn, 1) := by decide +kernel
theorem dL_dominated_0 : decode cL_dominated 0 = .ok (.aload 4, 2) := by decide +kernel
theorem dL_dominated_2 : decode cL_dominated 2 = .ok (.iconst 0, 1) := by decide +kernel
theorem dL_dominated_3 : decode cL_dominated 3 = .ok (.aload_n 0, 1) := by decide +kernel
theorem dL_dominated_4 : decode cL_dominated 4 = .ok (.iload_n 1, 1) := by decide +kernel
theorem dL_dominated_5 : decode cL_dominated 5 = .ok (.iload_n 2, 1) := by decide +kernel
theorem dL_dominated_6 : decode cL_dominated 6 = .ok (.iload_n 3, 1) := by decide +kernel
theorem dL_dominated_7 : decode cL_dominated 7 = .ok (.invokevirtual 50, 3) := by decide +kernel
theorem dL_dominated_10 : decode cL_dominated 10 = .ok (.i2l, 1) := by decide +kernel
theorem dL_dominated_11 : decode cL_dominated 11 = .ok (.lastore, 1) := by decide +kernel
theorem dL_dominated_12 : decode cL_dominated 12 = .ok (.goto 11, 3) := by decide +kernel
theorem dL_dominated_15 : decode cL_dominated 15 = .ok (.astore 5, 2) := by decide +kernel
theorem dL_dominated_17 : decode cL_dominated 17 = .ok (.iconst 1, 1) := by decide +kernel
theorem dL_dominated_18 : decode cL_dominated 18 = .ok (.ireturn, 1) := by decide +kernel
theorem dL_dominated_19 : decode cL_dominated 19 = .ok (.astore 5, 2) := by decide +kernel
theorem dL_dominated_21 : decode cL_dominated 21 = .ok (.iconst 2, 1) := by decide +kernel
theorem dL_dominated_22 : decode cL_dominated 22 = .ok (.ireturn, 1) := by decide +kernel
theorem dL_dominated_23 : decode cL_dominated 23 = .ok (.iconst 0, 1) := by decide +kernel
theorem dL_dominated_24 : decode cL_dominated 24 = .ok (.ireturn, 1) := by decide +kernel
theorem dL_reversible_0 : decode cL_reversible 0 = .ok (.aload 4, 2) := by decide +kernel
theorem dL_reversible_2 : decode cL_reversible 2 = .ok (.iconst 0, 1) := by decide +kernel
theorem dL_reversible_3 : decode cL_reversible 3 = .ok (.aload_n 0, 1) := by decide +kernel
theorem dL_reversible_4 : decode cL_reversible 4 = .ok (.iload_n 1, 1) := by decide +kernel
theorem dL_reversible_5 : decode cL_reversible 5 = .ok (.iload_n 2, 1) := by decide +kernel
theorem dL_reversible_6 : decode cL_reversible 6 = .ok (.iload_n 3, 1) := by decide +kernel
theorem dL_reversible_7 : decode cL_reversible 7 = .ok (.invokevirtual 53, 3) := by decide +kernel
theorem dL_reversible_10 : decode cL_reversible 10 = .ok (.i2l, 1) := by decide +kernel
theorem dL_reversible_11 : decode cL_reversible 11 = .ok (.lastore, 1) := by decide +kernel
theorem dL_reversible_12 : decode cL_reversible 12 = .ok (.goto 11, 3) := by decide +kernel
theorem dL_reversible_15 : decode cL_reversible 15 = .ok (.astore 5, 2) := by decide +kernel
theorem dL_reversible_17 : decode cL_reversible 17 = .ok (.iconst 1, 1) := by decide +kernel
theorem dL_reversible_18 : decode cL_reversible 18 = .ok (.ireturn, 1) := by decide +kernel
theorem dL_reversible_19 : decode cL_reversible 19 = .ok (.astore 5, 2) := by decide +kernel
theorem dL_reversible_21 : decode cL_reversible 21 = .ok (.iconst 2, 1) := by decide +kernel
theorem dL_reversible_22 : decode cL_reversible 22 = .ok (.ireturn, 1) := by decide +kernel
theorem dL_reversible_23 : decode cL_reversible 23 = .ok (.iconst 0, 1) := by decide +kernel
theorem dL_reversible_24 : decode cL_reversible 24 = .ok (.ireturn, 1) := by decide +kernel
theorem dL_mean_0 : decode cL_mean 0 = .ok (.aload_n 2, 1) := by decide +kernel
theorem dL_mean_1 : decode cL_mean 1 = .ok (.iconst 0, 1) := by decide +kernel
theorem dL_mean_2 : decode cL_mean 2 = .ok (.aload_n 0, 1) := by decide +kernel
theorem dL_mean_3 : decode cL_mean 3 = .ok (.iload_n 1, 1) := by decide +kernel
theorem dL_mean_4 : decode cL_mean 4 = .ok (.invokevirtual 56, 3) := by decide +kernel
theorem dL_mean_7 : decode cL_mean 7 = .ok (.i2l, 1) := by decide +kernel
theorem dL_mean_8 : decode cL_mean 8 = .ok (.lastore, 1) := by decide +kernel
theorem dL_mean_9 : decode cL_mean 9 = .ok (.goto 6, 3) := by decide +kernel
theorem dL_mean_12 : decode cL_mean 12 = .ok (.astore_n 3, 1) := by decide +kernel
theorem dL_mean_13 : decode cL_mean 13 = .ok (.iconst 1, 1) := by decide +kernel
theorem dL_mean_14 : decode cL_mean 14 = .ok (.ireturn, 1) := by decide +kernel
theorem dL_mean_15 : decode cL_mean 15 = .ok (.iconst 0, 1) := by decide +kernel
theorem dL_mean_16 : decode cL_mean 16 = .ok (.ireturn, 1) := by decide +kernel
theorem dL_temperature_0 : decode cL_temperature 0 = .ok (.aload_n 2, 1) := by decide +kernel
theorem dL_temperature_1 : decode cL_temperature 1 = .ok (.iconst 0, 1) := by decide +kernel
theorem dL_temperature_2 : decode cL_temperature 2 = .ok (.aload_n 0, 1) := by decide +kernel
theorem dL_temperature_3 : decode cL_temperature 3 = .ok (.iload_n 1, 1) := by decide +kernel
theorem dL_temperature_4 : decode cL_temperature 4 = .ok (.invokevirtual 59, 3) := by decide +kernel
theorem dL_temperature_7 : decode cL_temperature 7 = .ok (.i2l, 1) := by decide +kernel
theorem dL_temperature_8 : decode cL_temperature 8 = .ok (.lastore, 1) := by decide +kernel
theorem dL_temperature_9 : decode cL_temperature 9 = .ok (.goto 6, 3) := by decide +kernel
theorem dL_temperature_12 : decode cL_temperature 12 = .ok (.astore_n 3, 1) := by decide +kernel
theorem dL_temperature_13 : decode cL_temperature 13 = .ok (.iconst 1, 1) := by decide +kernel
theorem dL_temperature_14 : decode cL_temperature 14 = .ok (.ireturn, 1) := by decide +kernel
theorem dL_temperature_15 : decode cL_temperature 15 = .ok (.iconst 0, 1) := by decide +kernel
theorem dL_temperature_16 : decode cL_temperature 16 = .ok (.ireturn, 1) := by decide +kernel
theorem dL_wall_0 : decode cL_wall 0 = .ok (.aload 4, 2) := by decide +kernel
theorem dL_wall_2 : decode cL_wall 2 = .ok (.iconst 0, 1) := by decide +kernel
theorem dL_wall_3 : decode cL_wall 3 = .ok (.aload_n 0, 1) := by decide +kernel
theorem dL_wall_4 : decode cL_wall 4 = .ok (.iload_n 1, 1) := by decide +kernel
theorem dL_wall_5 : decode cL_wall 5 = .ok (.iload_n 2, 1) := by decide +kernel
theorem dL_wall_6 : decode cL_wall 6 = .ok (.iload_n 3, 1) := by decide +kernel
theorem dL_wall_7 : decode cL_wall 7 = .ok (.invokevirtual 62, 3) := by decide +kernel
theorem dL_wall_10 : decode cL_wall 10 = .ok (.i2l, 1) := by decide +kernel
theorem dL_wall_11 : decode cL_wall 11 = .ok (.lastore, 1) := by decide +kernel
theorem dL_wall_12 : decode cL_wall 12 = .ok (.goto 11, 3) := by decide +kernel
theorem dL_wall_15 : decode cL_wall 15 = .ok (.astore 5, 2) := by decide +kernel
theorem dL_wall_17 : decode cL_wall 17 = .ok (.iconst 1, 1) := by decide +kernel
theorem dL_wall_18 : decode cL_wall 18 = .ok (.ireturn, 1) := by decide +kernel
theorem dL_wall_19 : decode cL_wall 19 = .ok (.astore 5, 2) := by decide +kernel
theorem dL_wall_21 : decode cL_wall 21 = .ok (.iconst 2, 1) := by decide +kernel
theorem dL_wall_22 : decode cL_wall 22 = .ok (.ireturn, 1) := by decide +kernel
theorem dL_wall_23 : decode cL_wall 23 = .ok (.iconst 0, 1) := by decide +kernel
theorem dL_wall_24 : decode cL_wall 24 = .ok (.ireturn, 1) := by decide +kernel
theorem dL_corner_0 : decode cL_corner 0 = .ok (.aload 4, 2) := by decide +kernel
theorem dL_corner_2 : decode cL_corner 2 = .ok (.iconst 0, 1) := by decide +kernel
theorem dL_corner_3 : decode cL_corner 3 = .ok (.aload_n 0, 1) := by decide +kernel
theorem dL_corner_4 : decode cL_corner 4 = .ok (.iload_n 1, 1) := by decide +kernel
theorem dL_corner_5 : decode cL_corner 5 = .ok (.iload_n 2, 1) := by decide +kernel
theorem dL_corner_6 : decode cL_corner 6 = .ok (.iload_n 3, 1) := by decide +kernel
theorem dL_corner_7 : decode cL_corner 7 = .ok (.invokevirtual 65, 3) := by decide +kernel
theorem dL_corner_10 : decode cL_corner 10 = .ok (.i2l, 1) := by decide +kernel
theorem dL_corner_11 : decode cL_corner 11 = .ok (.lastore, 1) := by decide +kernel
theorem dL_corner_12 : decode cL_corner 12 = .ok (.goto 11, 3) := by decide +kernel
theorem dL_corner_15 : decode cL_corner 15 = .ok (.astore 5, 2) := by decide +kernel
theorem dL_corner_17 : decode cL_corner 17 = .ok (.iconst 1, 1) := by decide +kernel
theorem dL_corner_18 : decode cL_corner 18 = .ok (.ireturn, 1) := by decide +kernel
theorem dL_corner_19 : decode cL_corner 19 = .ok (.astore 5, 2) := by decide +kernel
theorem dL_corner_21 : decode cL_corner 21 = .ok (.iconst 2, 1) := by decide +kernel
theorem dL_corner_22 : decode cL_corner 22 = .ok (.ireturn, 1) := by decide +kernel
theorem dL_corner_23 : decode cL_corner 23 = .ok (.iconst 0, 1) := by decide +kernel
theorem dL_corner_24 : decode cL_corner 24 = .ok (.ireturn, 1) := by decide +kernel
theorem dL_add_0 : decode cL_add 0 = .ok (.aload_n 2, 1) := by decide +kernel
theorem dL_add_1 : decode cL_add 1 = .ok (.iconst 0, 1) := by decide +kernel
theorem dL_add_2 : decode cL_add 2 = .ok (.aload_n 0, 1) := by decide +kernel
theorem dL_add_3 : decode cL_add 3 = .ok (.iload_n 1, 1) := by decide +kernel
theorem dL_add_4 : decode cL_add 4 = .ok (.invokevirtual 68, 3) := by decide +kernel
theorem dL_add_7 : decode cL_add 7 = .ok (.i2l, 1) := by decide +kernel
theorem dL_add_8 : decode cL_add 8 = .ok (.lastore, 1) := by decide +kernel
theorem dL_add_9 : decode cL_add 9 = .ok (.goto 9, 3) := by decide +kernel
theorem dL_add_12 : decode cL_add 12 = .ok (.astore_n 3, 1) := by decide +kernel
theorem dL_add_13 : decode cL_add 13 = .ok (.iconst 1, 1) := by decide +kernel
theorem dL_add_14 : decode cL_add 14 = .ok (.ireturn, 1) := by decide +kernel
theorem dL_add_15 : decode cL_add 15 = .ok (.astore_n 3, 1) := by decide +kernel
theorem dL_add_16 : decode cL_add 16 = .ok (.iconst 2, 1) := by decide +kernel
theorem dL_add_17 : decode cL_add 17 = .ok (.ireturn, 1) := by decide +kernel
theorem dL_add_18 : decode cL_add 18 = .ok (.iconst 0, 1) := by decide +kernel
theorem dL_add_19 : decode cL_add 19 = .ok (.ireturn, 1) := by decide +kernel
theorem dL_remove_0 : decode cL_remove 0 = .ok (.aload_n 2, 1) := by decide +kernel
theorem dL_remove_1 : decode cL_remove 1 = .ok (.iconst 0, 1) := by decide +kernel
theorem dL_remove_2 : decode cL_remove 2 = .ok (.aload_n 0, 1) := by decide +kernel
theorem dL_remove_3 : decode cL_remove 3 = .ok (.iload_n 1, 1) := by decide +kernel
theorem dL_remove_4 : decode cL_remove 4 = .ok (.invokevirtual 71, 3) := by decide +kernel
theorem dL_remove_7 : decode cL_remove 7 = .ok (.i2l, 1) := by decide +kernel
theorem dL_remove_8 : decode cL_remove 8 = .ok (.lastore, 1) := by decide +kernel
theorem dL_remove_9 : decode cL_remove 9 = .ok (.goto 6, 3) := by decide +kernel
theorem dL_remove_12 : decode cL_remove 12 = .ok (.astore_n 3, 1) := by decide +kernel
theorem dL_remove_13 : decode cL_remove 13 = .ok (.iconst 1, 1) := by decide +kernel
theorem dL_remove_14 : decode cL_remove 14 = .ok (.ireturn, 1) := by decide +kernel
theorem dL_remove_15 : decode cL_remove 15 = .ok (.iconst 0, 1) := by decide +kernel
theorem dL_remove_16 : decode cL_remove 16 = .ok (.ireturn, 1) := by decide +kernel
theorem dL_component_0 : decode cL_component 0 = .ok (.aload_n 2, 1) := by decide +kernel
theorem dL_component_1 : decode cL_component 1 = .ok (.iconst 0, 1) := by decide +kernel
theorem dL_component_2 : decode cL_component 2 = .ok (.aload_n 0, 1) := by decide +kernel
theorem dL_component_3 : decode cL_component 3 = .ok (.iload_n 1, 1) := by decide +kernel
theorem dL_component_4 : decode cL_component 4 = .ok (.invokevirtual 74, 3) := by decide +kernel
theorem dL_component_7 : decode cL_component 7 = .ok (.i2l, 1) := by decide +kernel
theorem dL_component_8 : decode cL_component 8 = .ok (.lastore, 1) := by decide +kernel
theorem dL_component_9 : decode cL_component 9 = .ok (.goto 6, 3) := by decide +kernel
theorem dL_component_12 : decode cL_component 12 = .ok (.astore_n 3, 1) := by decide +kernel
theorem dL_component_13 : decode cL_component 13 = .ok (.iconst 1, 1) := by decide +kernel
theorem dL_component_14 : decode cL_component 14 = .ok (.ireturn, 1) := by decide +kernel
theorem dL_component_15 : decode cL_component 15 = .ok (.iconst 0, 1) := by decide +kernel
theorem dL_component_16 : decode cL_component 16 = .ok (.ireturn, 1) := by decide +kernel
theorem dL_move_0 : decode cL_move 0 = .ok (.aload 4, 2) := by decide +kernel
theorem dL_move_2 : decode cL_move 2 = .ok (.iconst 0, 1) := by decide +kernel
theorem dL_move_3 : decode cL_move 3 = .ok (.aload_n 0, 1) := by decide +kernel
theorem dL_move_4 : decode cL_move 4 = .ok (.iload_n 1, 1) := by decide +kernel
theorem dL_move_5 : decode cL_move 5 = .ok (.iload_n 2, 1) := by decide +kernel
theorem dL_move_6 : decode cL_move 6 = .ok (.iload_n 3, 1) := by decide +kernel
theorem dL_move_7 : decode cL_move 7 = .ok (.invokevirtual 77, 3) := by decide +kernel
theorem dL_move_10 : decode cL_move 10 = .ok (.i2l, 1) := by decide +kernel
theorem dL_move_11 : decode cL_move 11 = .ok (.lastore, 1) := by decide +kernel
theorem dL_move_12 : decode cL_move 12 = .ok (.goto 15, 3) := by decide +kernel
theorem dL_move_15 : decode cL_move 15 = .ok (.astore 5, 2) := by decide +kernel
theorem dL_move_17 : decode cL_move 17 = .ok (.iconst 1, 1) := by decide +kernel
theorem dL_move_18 : decode cL_move 18 = .ok (.ireturn, 1) := by decide +kernel
theorem dL_move_19 : decode cL_move 19 = .ok (.astore 5, 2) := by decide +kernel
theorem dL_move_21 : decode cL_move 21 = .ok (.iconst 2, 1) := by decide +kernel
theorem dL_move_22 : decode cL_move 22 = .ok (.ireturn, 1) := by decide +kernel
theorem dL_move_23 : decode cL_move 23 = .ok (.astore 5, 2) := by decide +kernel
theorem dL_move_25 : decode cL_move 25 = .ok (.iconst 3, 1) := by decide +kernel
theorem dL_move_26 : decode cL_move 26 = .ok (.ireturn, 1) := by decide +kernel
theorem dL_move_27 : decode cL_move 27 = .ok (.iconst 0, 1) := by decide +kernel
theorem dL_move_28 : decode cL_move 28 = .ok (.ireturn, 1) := by decide +kernel
theorem dL_best_0 : decode cL_best 0 = .ok (.aload_n 2, 1) := by decide +kernel
theorem dL_best_1 : decode cL_best 1 = .ok (.iconst 0, 1) := by decide +kernel
theorem dL_best_2 : decode cL_best 2 = .ok (.aload_n 0, 1) := by decide +kernel
theorem dL_best_3 : decode cL_best 3 = .ok (.iload_n 1, 1) := by decide +kernel
theorem dL_best_4 : decode cL_best 4 = .ok (.invokevirtual 80, 3) := by decide +kernel
theorem dL_best_7 : decode cL_best 7 = .ok (.i2l, 1) := by decide +kernel
theorem dL_best_8 : decode cL_best 8 = .ok (.lastore, 1) := by decide +kernel
theorem dL_best_9 : decode cL_best 9 = .ok (.goto 9, 3) := by decide +kernel
theorem dL_best_12 : decode cL_best 12 = .ok (.astore_n 3, 1) := by decide +kernel
theorem dL_best_13 : decode cL_best 13 = .ok (.iconst 1, 1) := by decide +kernel
theorem dL_best_14 : decode cL_best 14 = .ok (.ireturn, 1) := by decide +kernel
theorem dL_best_15 : decode cL_best 15 = .ok (.astore_n 3, 1) := by decide +kernel
theorem dL_best_16 : decode cL_best 16 = .ok (.iconst 2, 1) := by decide +kernel
theorem dL_best_17 : decode cL_best 17 = .ok (.ireturn, 1) := by decide +kernel
theorem dL_best_18 : decode cL_best 18 = .ok (.iconst 0, 1) := by decide +kernel
theorem dL_best_19 : decode cL_best 19 = .ok (.ireturn, 1) := by decide +kernel
theorem dL_advice_0 : decode cL_advice 0 = .ok (.aload_n 3, 1) := by decide +kernel
theorem dL_advice_1 : decode cL_advice 1 = .ok (.iconst 0, 1) := by decide +kernel
theorem dL_advice_2 : decode cL_advice 2 = .ok (.aload_n 0, 1) := by decide +kernel
theorem dL_advice_3 : decode cL_advice 3 = .ok (.iload_n 1, 1) := by decide +kernel
theorem dL_advice_4 : decode cL_advice 4 = .ok (.iload_n 2, 1) := by decide +kernel
theorem dL_advice_5 : decode cL_advice 5 = .ok (.invokevirtual 83, 3) := by decide +kernel
theorem dL_advice_8 : decode cL_advice 8 = .ok (.i2l, 1) := by decide +kernel
theorem dL_advice_9 : decode cL_advice 9 = .ok (.lastore, 1) := by decide +kernel
theorem dL_advice_10 : decode cL_advice 10 = .ok (.goto 11, 3) := by decide +kernel
theorem dL_advice_13 : decode cL_advice 13 = .ok (.astore 4, 2) := by decide +kernel
theorem dL_advice_15 : decode cL_advice 15 = .ok (.iconst 1, 1) := by decide +kernel
theorem dL_advice_16 : decode cL_advice 16 = .ok (.ireturn, 1) := by decide +kernel
theorem dL_advice_17 : decode cL_advice 17 = .ok (.astore 4, 2) := by decide +kernel
theorem dL_advice_19 : decode cL_advice 19 = .ok (.iconst 2, 1) := by decide +kernel
theorem dL_advice_20 : decode cL_advice 20 = .ok (.ireturn, 1) := by decide +kernel
theorem dL_advice_21 : decode cL_advice 21 = .ok (.iconst 0, 1) := by decide +kernel
theorem dL_advice_22 : decode cL_advice 22 = .ok (.ireturn, 1) := by decide +kernel
theorem dL_play_0 : decode cL_play 0 = .ok (.aload 4, 2) := by decide +kernel
theorem dL_play_2 : decode cL_play 2 = .ok (.iconst 0, 1) := by decide +kernel
theorem dL_play_3 : decode cL_play 3 = .ok (.aload_n 0, 1) := by decide +kernel
theorem dL_play_4 : decode cL_play 4 = .ok (.iload_n 1, 1) := by decide +kernel
theorem dL_play_5 : decode cL_play 5 = .ok (.iload_n 2, 1) := by decide +kernel
theorem dL_play_6 : decode cL_play 6 = .ok (.iload_n 3, 1) := by decide +kernel
theorem dL_play_7 : decode cL_play 7 = .ok (.invokevirtual 86, 3) := by decide +kernel
theorem dL_play_10 : decode cL_play 10 = .ok (.i2l, 1) := by decide +kernel
theorem dL_play_11 : decode cL_play 11 = .ok (.lastore, 1) := by decide +kernel
theorem dL_play_12 : decode cL_play 12 = .ok (.goto 11, 3) := by decide +kernel
theorem dL_play_15 : decode cL_play 15 = .ok (.astore 5, 2) := by decide +kernel
theorem dL_play_17 : decode cL_play 17 = .ok (.iconst 1, 1) := by decide +kernel
theorem dL_play_18 : decode cL_play 18 = .ok (.ireturn, 1) := by decide +kernel
theorem dL_play_19 : decode cL_play 19 = .ok (.astore 5, 2) := by decide +kernel
theorem dL_play_21 : decode cL_play 21 = .ok (.iconst 2, 1) := by decide +kernel
theorem dL_play_22 : decode cL_play 22 = .ok (.ireturn, 1) := by decide +kernel
theorem dL_play_23 : decode cL_play 23 = .ok (.iconst 0, 1) := by decide +kernel
theorem dL_play_24 : decode cL_play 24 = .ok (.ireturn, 1) := by decide +kernel
theorem dL_type_0 : decode cL_type 0 = .ok (.aload_n 2, 1) := by decide +kernel
theorem dL_type_1 : decode cL_type 1 = .ok (.iconst 0, 1) := by decide +kernel
theorem dL_type_2 : decode cL_type 2 = .ok (.aload_n 0, 1) := by decide +kernel
theorem dL_type_3 : decode cL_type 3 = .ok (.iload_n 1, 1) := by decide +kernel
theorem dL_type_4 : decode cL_type 4 = .ok (.invokevirtual 89, 3) := by decide +kernel
theorem dL_type_7 : decode cL_type 7 = .ok (.i2l, 1) := by decide +kernel
theorem dL_type_8 : decode cL_type 8 = .ok (.lastore, 1) := by decide +kernel
theorem dL_type_9 : decode cL_type 9 = .ok (.goto 9, 3) := by decide +kernel
theorem dL_type_12 : decode cL_type 12 = .ok (.astore_n 3, 1) := by decide +kernel
theorem dL_type_13 : decode cL_type 13 = .ok (.iconst 1, 1) := by decide +kernel
theorem dL_type_14 : decode cL_type 14 = .ok (.ireturn, 1) := by decide +kernel
theorem dL_type_15 : decode cL_type 15 = .ok (.astore_n 3, 1) := by decide +kernel
theorem dL_type_16 : decode cL_type 16 = .ok (.iconst 2, 1) := by decide +kernel
theorem dL_type_17 : decode cL_type 17 = .ok (.ireturn, 1) := by decide +kernel
theorem dL_type_18 : decode cL_type 18 = .ok (.iconst 0, 1) := by decide +kernel
theorem dL_type_19 : decode cL_type 19 = .ok (.ireturn, 1) := by decide +kernel
theorem dL_read_0 : decode cL_read 0 = .ok (.aload_n 1, 1) := by decide +kernel
theorem dL_read_1 : decode cL_read 1 = .ok (.iconst 0, 1) := by decide +kernel
theorem dL_read_2 : decode cL_read 2 = .ok (.aload_n 0, 1) := by decide +kernel
theorem dL_read_3 : decode cL_read 3 = .ok (.invokevirtual 92, 3) := by decide +kernel
theorem dL_read_6 : decode cL_read 6 = .ok (.i2l, 1) := by decide +kernel
theorem dL_read_7 : decode cL_read 7 = .ok (.lastore, 1) := by decide +kernel
theorem dL_read_8 : decode cL_read 8 = .ok (.goto 9, 3) := by decide +kernel
theorem dL_read_11 : decode cL_read 11 = .ok (.astore_n 2, 1) := by decide +kernel
theorem dL_read_12 : decode cL_read 12 = .ok (.iconst 1, 1) := by decide +kernel
theorem dL_read_13 : decode cL_read 13 = .ok (.ireturn, 1) := by decide +kernel
theorem dL_read_14 : decode cL_read 14 = .ok (.astore_n 2, 1) := by decide +kernel
theorem dL_read_15 : decode cL_read 15 = .ok (.iconst 2, 1) := by decide +kernel
theorem dL_read_16 : decode cL_read 16 = .ok (.ireturn, 1) := by decide +kernel
theorem dL_read_17 : decode cL_read 17 = .ok (.iconst 0, 1) := by decide +kernel
theorem dL_read_18 : decode cL_read 18 = .ok (.ireturn, 1) := by decide +kernel
theorem dL_write_0 : decode cL_write 0 = .ok (.aload_n 2, 1) := by decide +kernel
theorem dL_write_1 : decode cL_write 1 = .ok (.iconst 0, 1) := by decide +kernel
theorem dL_write_2 : decode cL_write 2 = .ok (.aload_n 0, 1) := by decide +kernel
theorem dL_write_3 : decode cL_write 3 = .ok (.iload_n 1, 1) := by decide +kernel
theorem dL_write_4 : decode cL_write 4 = .ok (.invokevirtual 95, 3) := by decide +kernel
theorem dL_write_7 : decode cL_write 7 = .ok (.i2l, 1) := by decide +kernel
theorem dL_write_8 : decode cL_write 8 = .ok (.lastore, 1) := by decide +kernel
theorem dL_write_9 : decode cL_write 9 = .ok (.goto 9, 3) := by decide +kernel
theorem dL_write_12 : decode cL_write 12 = .ok (.astore_n 3, 1) := by decide +kernel
theorem dL_write_13 : decode cL_write 13 = .ok (.iconst 1, 1) := by decide +kernel
theorem dL_write_14 : decode cL_write 14 = .ok (.ireturn, 1) := by decide +kernel
theorem dL_write_15 : decode cL_write 15 = .ok (.astore_n 3, 1) := by decide +kernel
theorem dL_write_16 : decode cL_write 16 = .ok (.iconst 2, 1) := by decide +kernel
theorem dL_write_17 : decode cL_write 17 = .ok (.ireturn, 1) := by decide +kernel
theorem dL_write_18 : decode cL_write 18 = .ok (.iconst 0, 1) := by decide +kernel
theorem dL_write_19 : decode cL_write 19 = .ok (.ireturn, 1) := by decide +kernel
theorem dL_undo_0 : decode cL_undo 0 = .ok (.aload_n 1, 1) := by decide +kernel
theorem dL_undo_1 : decode cL_undo 1 = .ok (.iconst 0, 1) := by decide +kernel
theorem dL_undo_2 : decode cL_undo 2 = .ok (.aload_n 0, 1) := by decide +kernel
theorem dL_undo_3 : decode cL_undo 3 = .ok (.invokevirtual 98, 3) := by decide +kernel
theorem dL_undo_6 : decode cL_undo 6 = .ok (.i2l, 1) := by decide +kernel
theorem dL_undo_7 : decode cL_undo 7 = .ok (.lastore, 1) := by decide +kernel
theorem dL_undo_8 : decode cL_undo 8 = .ok (.goto 6, 3) := by decide +kernel
theorem dL_undo_11 : decode cL_undo 11 = .ok (.astore_n 2, 1) := by decide +kernel
theorem dL_undo_12 : decode cL_undo 12 = .ok (.iconst 1, 1) := by decide +kernel
theorem dL_undo_13 : decode cL_undo 13 = .ok (.ireturn, 1) := by decide +kernel
theorem dL_undo_14 : decode cL_undo 14 = .ok (.iconst 0, 1) := by decide +kernel
theorem dL_undo_15 : decode cL_undo 15 = .ok (.ireturn, 1) := by decide +kernel
theorem dL_law_0 : decode cL_law 0 = .ok (.new 8, 3) := by decide +kernel
theorem dL_law_3 : decode cL_law 3 = .ok (.dup, 1) := by decide +kernel
theorem dL_law_4 : decode cL_law 4 = .ok (.invokespecial 101, 3) := by decide +kernel
theorem dL_law_7 : decode cL_law 7 = .ok (.astore_n 1, 1) := by decide +kernel
theorem dL_law_8 : decode cL_law 8 = .ok (.new 102, 3) := by decide +kernel
theorem dL_law_11 : decode cL_law 11 = .ok (.dup, 1) := by decide +kernel
theorem dL_law_12 : decode cL_law 12 = .ok (.invokespecial 104, 3) := by decide +kernel
theorem dL_law_15 : decode cL_law 15 = .ok (.astore_n 2, 1) := by decide +kernel
theorem dL_law_16 : decode cL_law 16 = .ok (.iconst 1, 1) := by decide +kernel
theorem dL_law_17 : decode cL_law 17 = .ok (.newarray .long, 2) := by decide +kernel
theorem dL_law_19 : decode cL_law 19 = .ok (.astore_n 3, 1) := by decide +kernel
theorem dL_law_20 : decode cL_law 20 = .ok (.iconst 0, 1) := by decide +kernel
theorem dL_law_21 : decode cL_law 21 = .ok (.istore 4, 2) := by decide +kernel
theorem dL_law_23 : decode cL_law 23 = .ok (.iload 4, 2) := by decide +kernel
theorem dL_law_25 : decode cL_law 25 = .ok (.aload_n 0, 1) := by decide +kernel
theorem dL_law_26 : decode cL_law 26 = .ok (.arraylength, 1) := by decide +kernel
theorem dL_law_27 : decode cL_law 27 = .ok (.iconst 4, 1) := by decide +kernel
theorem dL_law_28 : decode cL_law 28 = .ok (.isub, 1) := by decide +kernel
theorem dL_law_29 : decode cL_law 29 = .ok (.if_icmp .gt 2014, 3) := by decide +kernel
theorem dL_law_32 : decode cL_law 32 = .ok (.aload_n 0, 1) := by decide +kernel
theorem dL_law_33 : decode cL_law 33 = .ok (.iload 4, 2) := by decide +kernel
theorem dL_law_35 : decode cL_law 35 = .ok (.iaload, 1) := by decide +kernel
theorem dL_law_36 : decode cL_law 36 = .ok (.bipush 63, 2) := by decide +kernel
theorem dL_law_38 : decode cL_law 38 = .ok (.iand, 1) := by decide +kernel
theorem dL_law_39 : decode cL_law 39 = .ok (.tableswitch 1998 0 35 #[157, 170, 226, 294, 307, 351, 407, 475, 555, 611, 679, 742, 798, 878, 958, 1014, 1070, 1150, 1230, 1286, 1342, 1355, 1411, 1491, 1504, 1560, 1628, 1708, 1733, 1789, 1802, 1815, 1859, 1915, 1940, 1984], 157) := by decide +kernel
theorem dL_law_196 : decode cL_law 196 = .ok (.aload_n 1, 1) := by decide +kernel
theorem dL_law_197 : decode cL_law 197 = .ok (.invokevirtual 105, 3) := by decide +kernel
theorem dL_law_200 : decode cL_law 200 = .ok (.aload_n 2, 1) := by decide +kernel
theorem dL_law_201 : decode cL_law 201 = .ok (.invokevirtual 108, 3) := by decide +kernel
theorem dL_law_204 : decode cL_law 204 = .ok (.if_icmp .eq 1833, 3) := by decide +kernel
theorem dL_law_207 : decode cL_law 207 = .ok (.iconst 0, 1) := by decide +kernel
theorem dL_law_208 : decode cL_law 208 = .ok (.ireturn, 1) := by decide +kernel
theorem dL_law_209 : decode cL_law 209 = .ok (.aload_n 1, 1) := by decide +kernel
theorem dL_law_210 : decode cL_law 210 = .ok (.aload_n 0, 1) := by decide +kernel
theorem dL_law_211 : decode cL_law 211 = .ok (.iload 4, 2) := by decide +kernel
theorem dL_law_213 : decode cL_law 213 = .ok (.iconst 1, 1) := by decide +kernel
theorem dL_law_214 : decode cL_law 214 = .ok (.iadd, 1) := by decide +kernel
theorem dL_law_215 : decode cL_law 215 = .ok (.iaload, 1) := by decide +kernel
theorem dL_law_216 : decode cL_law 216 = .ok (.aload_n 3, 1) := by decide +kernel
theorem dL_law_217 : decode cL_law 217 = .ok (.invokestatic 109, 3) := by decide +kernel
theorem dL_law_220 : decode cL_law 220 = .ok (.istore 5, 2) := by decide +kernel
theorem dL_law_222 : decode cL_law 222 = .ok (.aload_n 2, 1) := by decide +kernel
theorem dL_law_223 : decode cL_law 223 = .ok (.aload_n 0, 1) := by decide +kernel
theorem dL_law_224 : decode cL_law 224 = .ok (.iload 4, 2) := by decide +kernel
theorem dL_law_226 : decode cL_law 226 = .ok (.iconst 1, 1) := by decide +kernel
theorem dL_law_227 : decode cL_law 227 = .ok (.iadd, 1) := by decide +kernel
theorem dL_law_228 : decode cL_law 228 = .ok (.iaload, 1) := by decide +kernel
theorem dL_law_229 : decode cL_law 229 = .ok (.invokevirtual 114, 3) := by decide +kernel
theorem dL_law_232 : decode cL_law 232 = .ok (.istore 6, 2) := by decide +kernel
theorem dL_law_234 : decode cL_law 234 = .ok (.aload_n 2, 1) := by decide +kernel
theorem dL_law_235 : decode cL_law 235 = .ok (.invokevirtual 115, 3) := by decide +kernel
theorem dL_law_238 : decode cL_law 238 = .ok (.iload 5, 2) := by decide +kernel
theorem dL_law_240 : decode cL_law 240 = .ok (.if_icmp .eq 5, 3) := by decide +kernel
theorem dL_law_243 : decode cL_law 243 = .ok (.iconst 0, 1) := by decide +kernel
theorem dL_law_244 : decode cL_law 244 = .ok (.ireturn, 1) := by decide +kernel
theorem dL_law_245 : decode cL_law 245 = .ok (.iload 5, 2) := by decide +kernel
theorem dL_law_247 : decode cL_law 247 = .ok (.ifCond .ne 15, 3) := by decide +kernel
theorem dL_law_250 : decode cL_law 250 = .ok (.aload_n 3, 1) := by decide +kernel
theorem dL_law_251 : decode cL_law 251 = .ok (.iconst 0, 1) := by decide +kernel
theorem dL_law_252 : decode cL_law 252 = .ok (.laload, 1) := by decide +kernel
theorem dL_law_253 : decode cL_law 253 = .ok (.iload 6, 2) := by decide +kernel
theorem dL_law_255 : decode cL_law 255 = .ok (.i2l, 1) := by decide +kernel
theorem dL_law_256 : decode cL_law 256 = .ok (.lcmp, 1) := by decide +kernel
theorem dL_law_257 : decode cL_law 257 = .ok (.ifCond .eq 5, 3) := by decide +kernel
theorem dL_law_260 : decode cL_law 260 = .ok (.iconst 0, 1) := by decide +kernel
theorem dL_law_261 : decode cL_law 261 = .ok (.ireturn, 1) := by decide +kernel
theorem dL_law_262 : decode cL_law 262 = .ok (.goto 1775, 3) := by decide +kernel
theorem dL_law_265 : decode cL_law 265 = .ok (.aload_n 1, 1) := by decide +kernel
theorem dL_law_266 : decode cL_law 266 = .ok (.aload_n 0, 1) := by decide +kernel
theorem dL_law_267 : decode cL_law 267 = .ok (.iload 4, 2) := by decide +kernel
theorem dL_law_269 : decode cL_law 269 = .ok (.iconst 1, 1) := by decide +kernel
theorem dL_law_270 : decode cL_law 270 = .ok (.iadd, 1) := by decide +kernel
theorem dL_law_271 : decode cL_law 271 = .ok (.iaload, 1) := by decide +kernel
theorem dL_law_272 : decode cL_law 272 = .ok (.aload_n 0, 1) := by decide +kernel
theorem dL_law_273 : decode cL_law 273 = .ok (.iload 4, 2) := by decide +kernel
theorem dL_law_275 : decode cL_law 275 = .ok (.iconst 2, 1) := by decide +kernel
theorem dL_law_276 : decode cL_law 276 = .ok (.iadd, 1) := by decide +kernel
theorem dL_law_277 : decode cL_law 277 = .ok (.iaload, 1) := by decide +kernel
theorem dL_law_278 : decode cL_law 278 = .ok (.aload_n 3, 1) := by decide +kernel
theorem dL_law_279 : decode cL_law 279 = .ok (.invokestatic 118, 3) := by decide +kernel
theorem dL_law_282 : decode cL_law 282 = .ok (.istore 5, 2) := by decide +kernel
theorem dL_law_284 : decode cL_law 284 = .ok (.aload_n 2, 1) := by decide +kernel
theorem dL_law_285 : decode cL_law 285 = .ok (.aload_n 0, 1) := by decide +kernel
theorem dL_law_286 : decode cL_law 286 = .ok (.iload 4, 2) := by decide +kernel
theorem dL_law_288 : decode cL_law 288 = .ok (.iconst 1, 1) := by decide +kernel
theorem dL_law_289 : decode cL_law 289 = .ok (.iadd, 1) := by decide +kernel
theorem dL_law_290 : decode cL_law 290 = .ok (.iaload, 1) := by decide +kernel
theorem dL_law_291 : decode cL_law 291 = .ok (.aload_n 0, 1) := by decide +kernel
theorem dL_law_292 : decode cL_law 292 = .ok (.iload 4, 2) := by decide +kernel
theorem dL_law_294 : decode cL_law 294 = .ok (.iconst 2, 1) := by decide +kernel
theorem dL_law_295 : decode cL_law 295 = .ok (.iadd, 1) := by decide +kernel
theorem dL_law_296 : decode cL_law 296 = .ok (.iaload, 1) := by decide +kernel
theorem dL_law_297 : decode cL_law 297 = .ok (.invokevirtual 121, 3) := by decide +kernel
theorem dL_law_300 : decode cL_law 300 = .ok (.istore 6, 2) := by decide +kernel
theorem dL_law_302 : decode cL_law 302 = .ok (.aload_n 2, 1) := by decide +kernel
theorem dL_law_303 : decode cL_law 303 = .ok (.invokevirtual 115, 3) := by decide +kernel
theorem dL_law_306 : decode cL_law 306 = .ok (.iload 5, 2) := by decide +kernel
theorem dL_law_308 : decode cL_law 308 = .ok (.if_icmp .eq 5, 3) := by decide +kernel
theorem dL_law_311 : decode cL_law 311 = .ok (.iconst 0, 1) := by decide +kernel
theorem dL_law_312 : decode cL_law 312 = .ok (.ireturn, 1) := by decide +kernel
theorem dL_law_313 : decode cL_law 313 = .ok (.iload 5, 2) := by decide +kernel
theorem dL_law_315 : decode cL_law 315 = .ok (.ifCond .ne 15, 3) := by decide +kernel
theorem dL_law_318 : decode cL_law 318 = .ok (.aload_n 3, 1) := by decide +kernel
theorem dL_law_319 : decode cL_law 319 = .ok (.iconst 0, 1) := by decide +kernel
theorem dL_law_320 : decode cL_law 320 = .ok (.laload, 1) := by decide +kernel
theorem dL_law_321 : decode cL_law 321 = .ok (.iload 6, 2) := by decide +kernel
theorem dL_law_323 : decode cL_law 323 = .ok (.i2l, 1) := by decide +kernel
theorem dL_law_324 : decode cL_law 324 = .ok (.lcmp, 1) := by decide +kernel
theorem dL_law_325 : decode cL_law 325 = .ok (.ifCond .eq 5, 3) := by decide +kernel
theorem dL_law_328 : decode cL_law 328 = .ok (.iconst 0, 1) := by decide +kernel
theorem dL_law_329 : decode cL_law 329 = .ok (.ireturn, 1) := by decide +kernel
theorem dL_law_330 : decode cL_law 330 = .ok (.goto 1707, 3) := by decide +kernel
theorem dL_law_333 : decode cL_law 333 = .ok (.aload_n 1, 1) := by decide +kernel
theorem dL_law_334 : decode cL_law 334 = .ok (.invokevirtual 122, 3) := by decide +kernel
theorem dL_law_337 : decode cL_law 337 = .ok (.aload_n 2, 1) := by decide +kernel
theorem dL_law_338 : decode cL_law 338 = .ok (.invokevirtual 125, 3) := by decide +kernel
theorem dL_law_341 : decode cL_law 341 = .ok (.if_icmp .eq 1696, 3) := by decide +kernel
theorem dL_law_344 : decode cL_law 344 = .ok (.iconst 0, 1) := by decide +kernel
theorem dL_law_345 : decode cL_law 345 = .ok (.ireturn, 1) := by decide +kernel
theorem dL_law_346 : decode cL_law 346 = .ok (.aload_n 1, 1) := by decide +kernel
theorem dL_law_347 : decode cL_law 347 = .ok (.aload_n 3, 1) := by decide +kernel
theorem dL_law_348 : decode cL_law 348 = .ok (.invokestatic 126, 3) := by decide +kernel
theorem dL_law_351 : decode cL_law 351 = .ok (.istore 5, 2) := by decide +kernel
theorem dL_law_353 : decode cL_law 353 = .ok (.aload_n 2, 1) := by decide +kernel
theorem dL_law_354 : decode cL_law 354 = .ok (.invokevirtual 129, 3) := by decide +kernel
theorem dL_law_357 : decode cL_law 357 = .ok (.istore 6, 2) := by decide +kernel
theorem dL_law_359 : decode cL_law 359 = .ok (.aload_n 2, 1) := by decide +kernel
theorem dL_law_360 : decode cL_law 360 = .ok (.invokevirtual 115, 3) := by decide +kernel
theorem dL_law_363 : decode cL_law 363 = .ok (.iload 5, 2) := by decide +kernel
theorem dL_law_365 : decode cL_law 365 = .ok (.if_icmp .eq 5, 3) := by decide +kernel
theorem dL_law_368 : decode cL_law 368 = .ok (.iconst 0, 1) := by decide +kernel
theorem dL_law_369 : decode cL_law 369 = .ok (.ireturn, 1) := by decide +kernel
theorem dL_law_370 : decode cL_law 370 = .ok (.iload 5, 2) := by decide +kernel
theorem dL_law_372 : decode cL_law 372 = .ok (.ifCond .ne 15, 3) := by decide +kernel
theorem dL_law_375 : decode cL_law 375 = .ok (.aload_n 3, 1) := by decide +kernel
theorem dL_law_376 : decode cL_law 376 = .ok (.iconst 0, 1) := by decide +kernel
theorem dL_law_377 : decode cL_law 377 = .ok (.laload, 1) := by decide +kernel
theorem dL_law_378 : decode cL_law 378 = .ok (.iload 6, 2) := by decide +kernel
theorem dL_law_380 : decode cL_law 380 = .ok (.i2l, 1) := by decide +kernel
theorem dL_law_381 : decode cL_law 381 = .ok (.lcmp, 1) := by decide +kernel
theorem dL_law_382 : decode cL_law 382 = .ok (.ifCond .eq 5, 3) := by decide +kernel
theorem dL_law_385 : decode cL_law 385 = .ok (.iconst 0, 1) := by decide +kernel
theorem dL_law_386 : decode cL_law 386 = .ok (.ireturn, 1) := by decide +kernel
theorem dL_law_387 : decode cL_law 387 = .ok (.goto 1650, 3) := by decide +kernel
theorem dL_law_390 : decode cL_law 390 = .ok (.aload_n 1, 1) := by decide +kernel
theorem dL_law_391 : decode cL_law 391 = .ok (.aload_n 0, 1) := by decide +kernel
theorem dL_law_392 : decode cL_law 392 = .ok (.iload 4, 2) := by decide +kernel
theorem dL_law_394 : decode cL_law 394 = .ok (.iconst 1, 1) := by decide +kernel
theorem dL_law_395 : decode cL_law 395 = .ok (.iadd, 1) := by decide +kernel
theorem dL_law_396 : decode cL_law 396 = .ok (.iaload, 1) := by decide +kernel
theorem dL_law_397 : decode cL_law 397 = .ok (.aload_n 3, 1) := by decide +kernel
theorem dL_law_398 : decode cL_law 398 = .ok (.invokestatic 130, 3) := by decide +kernel
theorem dL_law_401 : decode cL_law 401 = .ok (.istore 5, 2) := by decide +kernel
theorem dL_law_403 : decode cL_law 403 = .ok (.aload_n 2, 1) := by decide +kernel
theorem dL_law_404 : decode cL_law 404 = .ok (.aload_n 0, 1) := by decide +kernel
theorem dL_law_405 : decode cL_law 405 = .ok (.iload 4, 2) := by decide +kernel
theorem dL_law_407 : decode cL_law 407 = .ok (.iconst 1, 1) := by decide +kernel
theorem dL_law_408 : decode cL_law 408 = .ok (.iadd, 1) := by decide +kernel
theorem dL_law_409 : decode cL_law 409 = .ok (.iaload, 1) := by decide +kernel
theorem dL_law_410 : decode cL_law 410 = .ok (.invokevirtual 132, 3) := by decide +kernel
theorem dL_law_413 : decode cL_law 413 = .ok (.istore 6, 2) := by decide +kernel
theorem dL_law_415 : decode cL_law 415 = .ok (.aload_n 2, 1) := by decide +kernel
theorem dL_law_416 : decode cL_law 416 = .ok (.invokevirtual 115, 3) := by decide +kernel
theorem dL_law_419 : decode cL_law 419 = .ok (.iload 5, 2) := by decide +kernel
theorem dL_law_421 : decode cL_law 421 = .ok (.if_icmp .eq 5, 3) := by decide +kernel
theorem dL_law_424 : decode cL_law 424 = .ok (.iconst 0, 1) := by decide +kernel
theorem dL_law_425 : decode cL_law 425 = .ok (.ireturn, 1) := by decide +kernel
theorem dL_law_426 : decode cL_law 426 = .ok (.iload 5, 2) := by decide +kernel
theorem dL_law_428 : decode cL_law 428 = .ok (.ifCond .ne 15, 3) := by decide +kernel
theorem dL_law_431 : decode cL_law 431 = .ok (.aload_n 3, 1) := by decide +kernel
theorem dL_law_432 : decode cL_law 432 = .ok (.iconst 0, 1) := by decide +kernel
theorem dL_law_433 : decode cL_law 433 = .ok (.laload, 1) := by decide +kernel
theorem dL_law_434 : decode cL_law 434 = .ok (.iload 6, 2) := by decide +kernel
theorem dL_law_436 : decode cL_law 436 = .ok (.i2l, 1) := by decide +kernel
theorem dL_law_437 : decode cL_law 437 = .ok (.lcmp, 1) := by decide +kernel
theorem dL_law_438 : decode cL_law 438 = .ok (.ifCond .eq 5, 3) := by decide +kernel
theorem dL_law_441 : decode cL_law 441 = .ok (.iconst 0, 1) := by decide +kernel
theorem dL_law_442 : decode cL_law 442 = .ok (.ireturn, 1) := by decide +kernel
theorem dL_law_443 : decode cL_law 443 = .ok (.goto 1594, 3) := by decide +kernel
theorem dL_law_446 : decode cL_law 446 = .ok (.aload_n 1, 1) := by decide +kernel
theorem dL_law_447 : decode cL_law 447 = .ok (.aload_n 0, 1) := by decide +kernel
theorem dL_law_448 : decode cL_law 448 = .ok (.iload 4, 2) := by decide +kernel
theorem dL_law_450 : decode cL_law 450 = .ok (.iconst 1, 1) := by decide +kernel
theorem dL_law_451 : decode cL_law 451 = .ok (.iadd, 1) := by decide +kernel
theorem dL_law_452 : decode cL_law 452 = .ok (.iaload, 1) := by decide +kernel
theorem dL_law_453 : decode cL_law 453 = .ok (.aload_n 0, 1) := by decide +kernel
theorem dL_law_454 : decode cL_law 454 = .ok (.iload 4, 2) := by decide +kernel
theorem dL_law_456 : decode cL_law 456 = .ok (.iconst 2, 1) := by decide +kernel
theorem dL_law_457 : decode cL_law 457 = .ok (.iadd, 1) := by decide +kernel
theorem dL_law_458 : decode cL_law 458 = .ok (.iaload, 1) := by decide +kernel
theorem dL_law_459 : decode cL_law 459 = .ok (.aload_n 3, 1) := by decide +kernel
theorem dL_law_460 : decode cL_law 460 = .ok (.invokestatic 133, 3) := by decide +kernel
theorem dL_law_463 : decode cL_law 463 = .ok (.istore 5, 2) := by decide +kernel
theorem dL_law_465 : decode cL_law 465 = .ok (.aload_n 2, 1) := by decide +kernel
theorem dL_law_466 : decode cL_law 466 = .ok (.aload_n 0, 1) := by decide +kernel
theorem dL_law_467 : decode cL_law 467 = .ok (.iload 4, 2) := by decide +kernel
theorem dL_law_469 : decode cL_law 469 = .ok (.iconst 1, 1) := by decide +kernel
theorem dL_law_470 : decode cL_law 470 = .ok (.iadd, 1) := by decide +kernel
theorem dL_law_471 : decode cL_law 471 = .ok (.iaload, 1) := by decide +kernel
theorem dL_law_472 : decode cL_law 472 = .ok (.aload_n 0, 1) := by decide +kernel
theorem dL_law_473 : decode cL_law 473 = .ok (.iload 4, 2) := by decide +kernel
theorem dL_law_475 : decode cL_law 475 = .ok (.iconst 2, 1) := by decide +kernel
theorem dL_law_476 : decode cL_law 476 = .ok (.iadd, 1) := by decide +kernel
theorem dL_law_477 : decode cL_law 477 = .ok (.iaload, 1) := by decide +kernel
theorem dL_law_478 : decode cL_law 478 = .ok (.invokevirtual 135, 3) := by decide +kernel
theorem dL_law_481 : decode cL_law 481 = .ok (.istore 6, 2) := by decide +kernel
theorem dL_law_483 : decode cL_law 483 = .ok (.aload_n 2, 1) := by decide +kernel
theorem dL_law_484 : decode cL_law 484 = .ok (.invokevirtual 115, 3) := by decide +kernel
theorem dL_law_487 : decode cL_law 487 = .ok (.iload 5, 2) := by decide +kernel
theorem dL_law_489 : decode cL_law 489 = .ok (.if_icmp .eq 5, 3) := by decide +kernel
theorem dL_law_492 : decode cL_law 492 = .ok (.iconst 0, 1) := by decide +kernel
theorem dL_law_493 : decode cL_law 493 = .ok (.ireturn, 1) := by decide +kernel
theorem dL_law_494 : decode cL_law 494 = .ok (.iload 5, 2) := by decide +kernel
theorem dL_law_496 : decode cL_law 496 = .ok (.ifCond .ne 15, 3) := by decide +kernel
theorem dL_law_499 : decode cL_law 499 = .ok (.aload_n 3, 1) := by decide +kernel
theorem dL_law_500 : decode cL_law 500 = .ok (.iconst 0, 1) := by decide +kernel
theorem dL_law_501 : decode cL_law 501 = .ok (.laload, 1) := by decide +kernel
theorem dL_law_502 : decode cL_law 502 = .ok (.iload 6, 2) := by decide +kernel
theorem dL_law_504 : decode cL_law 504 = .ok (.i2l, 1) := by decide +kernel
theorem dL_law_505 : decode cL_law 505 = .ok (.lcmp, 1) := by decide +kernel
theorem dL_law_506 : decode cL_law 506 = .ok (.ifCond .eq 5, 3) := by decide +kernel
theorem dL_law_509 : decode cL_law 509 = .ok (.iconst 0, 1) := by decide +kernel
theorem dL_law_510 : decode cL_law 510 = .ok (.ireturn, 1) := by decide +kernel
theorem dL_law_511 : decode cL_law 511 = .ok (.goto 1526, 3) := by decide +kernel
theorem dL_law_514 : decode cL_law 514 = .ok (.aload_n 1, 1) := by decide +kernel
theorem dL_law_515 : decode cL_law 515 = .ok (.aload_n 0, 1) := by decide +kernel
theorem dL_law_516 : decode cL_law 516 = .ok (.iload 4, 2) := by decide +kernel
theorem dL_law_518 : decode cL_law 518 = .ok (.iconst 1, 1) := by decide +kernel
theorem dL_law_519 : decode cL_law 519 = .ok (.iadd, 1) := by decide +kernel
theorem dL_law_520 : decode cL_law 520 = .ok (.iaload, 1) := by decide +kernel
theorem dL_law_521 : decode cL_law 521 = .ok (.aload_n 0, 1) := by decide +kernel
theorem dL_law_522 : decode cL_law 522 = .ok (.iload 4, 2) := by decide +kernel
theorem dL_law_524 : decode cL_law 524 = .ok (.iconst 2, 1) := by decide +kernel
theorem dL_law_525 : decode cL_law 525 = .ok (.iadd, 1) := by decide +kernel
theorem dL_law_526 : decode cL_law 526 = .ok (.iaload, 1) := by decide +kernel
theorem dL_law_527 : decode cL_law 527 = .ok (.aload_n 0, 1) := by decide +kernel
theorem dL_law_528 : decode cL_law 528 = .ok (.iload 4, 2) := by decide +kernel
theorem dL_law_530 : decode cL_law 530 = .ok (.iconst 3, 1) := by decide +kernel
theorem dL_law_531 : decode cL_law 531 = .ok (.iadd, 1) := by decide +kernel
theorem dL_law_532 : decode cL_law 532 = .ok (.iaload, 1) := by decide +kernel
theorem dL_law_533 : decode cL_law 533 = .ok (.aload_n 3, 1) := by decide +kernel
theorem dL_law_534 : decode cL_law 534 = .ok (.invokestatic 136, 3) := by decide +kernel
theorem dL_law_537 : decode cL_law 537 = .ok (.istore 5, 2) := by decide +kernel
theorem dL_law_539 : decode cL_law 539 = .ok (.aload_n 2, 1) := by decide +kernel
theorem dL_law_540 : decode cL_law 540 = .ok (.aload_n 0, 1) := by decide +kernel
theorem dL_law_541 : decode cL_law 541 = .ok (.iload 4, 2) := by decide +kernel
theorem dL_law_543 : decode cL_law 543 = .ok (.iconst 1, 1) := by decide +kernel
theorem dL_law_544 : decode cL_law 544 = .ok (.iadd, 1) := by decide +kernel
theorem dL_law_545 : decode cL_law 545 = .ok (.iaload, 1) := by decide +kernel
theorem dL_law_546 : decode cL_law 546 = .ok (.aload_n 0, 1) := by decide +kernel
theorem dL_law_547 : decode cL_law 547 = .ok (.iload 4, 2) := by decide +kernel
theorem dL_law_549 : decode cL_law 549 = .ok (.iconst 2, 1) := by decide +kernel
theorem dL_law_550 : decode cL_law 550 = .ok (.iadd, 1) := by decide +kernel
theorem dL_law_551 : decode cL_law 551 = .ok (.iaload, 1) := by decide +kernel
theorem dL_law_552 : decode cL_law 552 = .ok (.aload_n 0, 1) := by decide +kernel
theorem dL_law_553 : decode cL_law 553 = .ok (.iload 4, 2) := by decide +kernel
theorem dL_law_555 : decode cL_law 555 = .ok (.iconst 3, 1) := by decide +kernel
theorem dL_law_556 : decode cL_law 556 = .ok (.iadd, 1) := by decide +kernel
theorem dL_law_557 : decode cL_law 557 = .ok (.iaload, 1) := by decide +kernel
theorem dL_law_558 : decode cL_law 558 = .ok (.invokevirtual 139, 3) := by decide +kernel
theorem dL_law_561 : decode cL_law 561 = .ok (.istore 6, 2) := by decide +kernel
theorem dL_law_563 : decode cL_law 563 = .ok (.aload_n 2, 1) := by decide +kernel
theorem dL_law_564 : decode cL_law 564 = .ok (.invokevirtual 115, 3) := by decide +kernel
theorem dL_law_567 : decode cL_law 567 = .ok (.iload 5, 2) := by decide +kernel
theorem dL_law_569 : decode cL_law 569 = .ok (.if_icmp .eq 5, 3) := by decide +kernel
theorem dL_law_572 : decode cL_law 572 = .ok (.iconst 0, 1) := by decide +kernel
theorem dL_law_573 : decode cL_law 573 = .ok (.ireturn, 1) := by decide +kernel
theorem dL_law_574 : decode cL_law 574 = .ok (.iload 5, 2) := by decide +kernel
theorem dL_law_576 : decode cL_law 576 = .ok (.ifCond .ne 15, 3) := by decide +kernel
theorem dL_law_579 : decode cL_law 579 = .ok (.aload_n 3, 1) := by decide +kernel
theorem dL_law_580 : decode cL_law 580 = .ok (.iconst 0, 1) := by decide +kernel
theorem dL_law_581 : decode cL_law 581 = .ok (.laload, 1) := by decide +kernel
theorem dL_law_582 : decode cL_law 582 = .ok (.iload 6, 2) := by decide +kernel
theorem dL_law_584 : decode cL_law 584 = .ok (.i2l, 1) := by decide +kernel
theorem dL_law_585 : decode cL_law 585 = .ok (.lcmp, 1) := by decide +kernel
theorem dL_law_586 : decode cL_law 586 = .ok (.ifCond .eq 5, 3) := by decide +kernel
theorem dL_law_589 : decode cL_law 589 = .ok (.iconst 0, 1) := by decide +kernel
theorem dL_law_590 : decode cL_law 590 = .ok (.ireturn, 1) := by decide +kernel
theorem dL_law_591 : decode cL_law 591 = .ok (.goto 1446, 3) := by decide +kernel
theorem dL_law_594 : decode cL_law 594 = .ok (.aload_n 1, 1) := by decide +kernel
theorem dL_law_595 : decode cL_law 595 = .ok (.aload_n 0, 1) := by decide +kernel
theorem dL_law_596 : decode cL_law 596 = .ok (.iload 4, 2) := by decide +kernel
theorem dL_law_598 : decode cL_law 598 = .ok (.iconst 1, 1) := by decide +kernel
theorem dL_law_599 : decode cL_law 599 = .ok (.iadd, 1) := by decide +kernel
theorem dL_law_600 : decode cL_law 600 = .ok (.iaload, 1) := by decide +kernel
theorem dL_law_601 : decode cL_law 601 = .ok (.aload_n 3, 1) := by decide +kernel
theorem dL_law_602 : decode cL_law 602 = .ok (.invokestatic 140, 3) := by decide +kernel
theorem dL_law_605 : decode cL_law 605 = .ok (.istore 5, 2) := by decide +kernel
theorem dL_law_607 : decode cL_law 607 = .ok (.aload_n 2, 1) := by decide +kernel
theorem dL_law_608 : decode cL_law 608 = .ok (.aload_n 0, 1) := by decide +kernel
theorem dL_law_609 : decode cL_law 609 = .ok (.iload 4, 2) := by decide +kernel
theorem dL_law_611 : decode cL_law 611 = .ok (.iconst 1, 1) := by decide +kernel
theorem dL_law_612 : decode cL_law 612 = .ok (.iadd, 1) := by decide +kernel
theorem dL_law_613 : decode cL_law 613 = .ok (.iaload, 1) := by decide +kernel
theorem dL_law_614 : decode cL_law 614 = .ok (.invokevirtual 142, 3) := by decide +kernel
theorem dL_law_617 : decode cL_law 617 = .ok (.istore 6, 2) := by decide +kernel
theorem dL_law_619 : decode cL_law 619 = .ok (.aload_n 2, 1) := by decide +kernel
theorem dL_law_620 : decode cL_law 620 = .ok (.invokevirtual 115, 3) := by decide +kernel
theorem dL_law_623 : decode cL_law 623 = .ok (.iload 5, 2) := by decide +kernel
theorem dL_law_625 : decode cL_law 625 = .ok (.if_icmp .eq 5, 3) := by decide +kernel
theorem dL_law_628 : decode cL_law 628 = .ok (.iconst 0, 1) := by decide +kernel
theorem dL_law_629 : decode cL_law 629 = .ok (.ireturn, 1) := by decide +kernel
theorem dL_law_630 : decode cL_law 630 = .ok (.iload 5, 2) := by decide +kernel
theorem dL_law_632 : decode cL_law 632 = .ok (.ifCond .ne 15, 3) := by decide +kernel
theorem dL_law_635 : decode cL_law 635 = .ok (.aload_n 3, 1) := by decide +kernel
theorem dL_law_636 : decode cL_law 636 = .ok (.iconst 0, 1) := by decide +kernel
theorem dL_law_637 : decode cL_law 637 = .ok (.laload, 1) := by decide +kernel
theorem dL_law_638 : decode cL_law 638 = .ok (.iload 6, 2) := by decide +kernel
theorem dL_law_640 : decode cL_law 640 = .ok (.i2l, 1) := by decide +kernel
theorem dL_law_641 : decode cL_law 641 = .ok (.lcmp, 1) := by decide +kernel
theorem dL_law_642 : decode cL_law 642 = .ok (.ifCond .eq 5, 3) := by decide +kernel
theorem dL_law_645 : decode cL_law 645 = .ok (.iconst 0, 1) := by decide +kernel
theorem dL_law_646 : decode cL_law 646 = .ok (.ireturn, 1) := by decide +kernel
theorem dL_law_647 : decode cL_law 647 = .ok (.goto 1390, 3) := by decide +kernel
theorem dL_law_650 : decode cL_law 650 = .ok (.aload_n 1, 1) := by decide +kernel
theorem dL_law_651 : decode cL_law 651 = .ok (.aload_n 0, 1) := by decide +kernel
theorem dL_law_652 : decode cL_law 652 = .ok (.iload 4, 2) := by decide +kernel
theorem dL_law_654 : decode cL_law 654 = .ok (.iconst 1, 1) := by decide +kernel
theorem dL_law_655 : decode cL_law 655 = .ok (.iadd, 1) := by decide +kernel
theorem dL_law_656 : decode cL_law 656 = .ok (.iaload, 1) := by decide +kernel
theorem dL_law_657 : decode cL_law 657 = .ok (.aload_n 0, 1) := by decide +kernel
theorem dL_law_658 : decode cL_law 658 = .ok (.iload 4, 2) := by decide +kernel
theorem dL_law_660 : decode cL_law 660 = .ok (.iconst 2, 1) := by decide +kernel
theorem dL_law_661 : decode cL_law 661 = .ok (.iadd, 1) := by decide +kernel
theorem dL_law_662 : decode cL_law 662 = .ok (.iaload, 1) := by decide +kernel
theorem dL_law_663 : decode cL_law 663 = .ok (.aload_n 3, 1) := by decide +kernel
theorem dL_law_664 : decode cL_law 664 = .ok (.invokestatic 143, 3) := by decide +kernel
theorem dL_law_667 : decode cL_law 667 = .ok (.istore 5, 2) := by decide +kernel
theorem dL_law_669 : decode cL_law 669 = .ok (.aload_n 2, 1) := by decide +kernel
theorem dL_law_670 : decode cL_law 670 = .ok (.aload_n 0, 1) := by decide +kernel
theorem dL_law_671 : decode cL_law 671 = .ok (.iload 4, 2) := by decide +kernel
theorem dL_law_673 : decode cL_law 673 = .ok (.iconst 1, 1) := by decide +kernel
theorem dL_law_674 : decode cL_law 674 = .ok (.iadd, 1) := by decide +kernel
theorem dL_law_675 : decode cL_law 675 = .ok (.iaload, 1) := by decide +kernel
theorem dL_law_676 : decode cL_law 676 = .ok (.aload_n 0, 1) := by decide +kernel
theorem dL_law_677 : decode cL_law 677 = .ok (.iload 4, 2) := by decide +kernel
theorem dL_law_679 : decode cL_law 679 = .ok (.iconst 2, 1) := by decide +kernel
theorem dL_law_680 : decode cL_law 680 = .ok (.iadd, 1) := by decide +kernel
theorem dL_law_681 : decode cL_law 681 = .ok (.iaload, 1) := by decide +kernel
theorem dL_law_682 : decode cL_law 682 = .ok (.invokevirtual 145, 3) := by decide +kernel
theorem dL_law_685 : decode cL_law 685 = .ok (.istore 6, 2) := by decide +kernel
theorem dL_law_687 : decode cL_law 687 = .ok (.aload_n 2, 1) := by decide +kernel
theorem dL_law_688 : decode cL_law 688 = .ok (.invokevirtual 115, 3) := by decide +kernel
theorem dL_law_691 : decode cL_law 691 = .ok (.iload 5, 2) := by decide +kernel
theorem dL_law_693 : decode cL_law 693 = .ok (.if_icmp .eq 5, 3) := by decide +kernel
theorem dL_law_696 : decode cL_law 696 = .ok (.iconst 0, 1) := by decide +kernel
theorem dL_law_697 : decode cL_law 697 = .ok (.ireturn, 1) := by decide +kernel
theorem dL_law_698 : decode cL_law 698 = .ok (.iload 5, 2) := by decide +kernel
theorem dL_law_700 : decode cL_law 700 = .ok (.ifCond .ne 15, 3) := by decide +kernel
theorem dL_law_703 : decode cL_law 703 = .ok (.aload_n 3, 1) := by decide +kernel
theorem dL_law_704 : decode cL_law 704 = .ok (.iconst 0, 1) := by decide +kernel
theorem dL_law_705 : decode cL_law 705 = .ok (.laload, 1) := by decide +kernel
theorem dL_law_706 : decode cL_law 706 = .ok (.iload 6, 2) := by decide +kernel
theorem dL_law_708 : decode cL_law 708 = .ok (.i2l, 1) := by decide +kernel
theorem dL_law_709 : decode cL_law 709 = .ok (.lcmp, 1) := by decide +kernel
theorem dL_law_710 : decode cL_law 710 = .ok (.ifCond .eq 5, 3) := by decide +kernel
theorem dL_law_713 : decode cL_law 713 = .ok (.iconst 0, 1) := by decide +kernel
theorem dL_law_714 : decode cL_law 714 = .ok (.ireturn, 1) := by decide +kernel
theorem dL_law_715 : decode cL_law 715 = .ok (.goto 1322, 3) := by decide +kernel
theorem dL_law_718 : decode cL_law 718 = .ok (.aload_n 1, 1) := by decide +kernel
theorem dL_law_719 : decode cL_law 719 = .ok (.aload_n 0, 1) := by decide +kernel
theorem dL_law_720 : decode cL_law 720 = .ok (.iload 4, 2) := by decide +kernel
theorem dL_law_722 : decode cL_law 722 = .ok (.iconst 1, 1) := by decide +kernel
theorem dL_law_723 : decode cL_law 723 = .ok (.iadd, 1) := by decide +kernel
theorem dL_law_724 : decode cL_law 724 = .ok (.iaload, 1) := by decide +kernel
theorem dL_law_725 : decode cL_law 725 = .ok (.aload_n 3, 1) := by decide +kernel
theorem dL_law_726 : decode cL_law 726 = .ok (.invokestatic 146, 3) := by decide +kernel
theorem dL_law_729 : decode cL_law 729 = .ok (.istore 5, 2) := by decide +kernel
theorem dL_law_731 : decode cL_law 731 = .ok (.aload_n 2, 1) := by decide +kernel
theorem dL_law_732 : decode cL_law 732 = .ok (.aload_n 0, 1) := by decide +kernel
theorem dL_law_733 : decode cL_law 733 = .ok (.iload 4, 2) := by decide +kernel
theorem dL_law_735 : decode cL_law 735 = .ok (.iconst 1, 1) := by decide +kernel
theorem dL_law_736 : decode cL_law 736 = .ok (.iadd, 1) := by decide +kernel
theorem dL_law_737 : decode cL_law 737 = .ok (.iaload, 1) := by decide +kernel
theorem dL_law_738 : decode cL_law 738 = .ok (.invokevirtual 148, 3) := by decide +kernel
theorem dL_law_741 : decode cL_law 741 = .ok (.istore 6, 2) := by decide +kernel
theorem dL_law_743 : decode cL_law 743 = .ok (.aload_n 2, 1) := by decide +kernel
theorem dL_law_744 : decode cL_law 744 = .ok (.invokevirtual 115, 3) := by decide +kernel
theorem dL_law_747 : decode cL_law 747 = .ok (.iload 5, 2) := by decide +kernel
theorem dL_law_749 : decode cL_law 749 = .ok (.if_icmp .eq 5, 3) := by decide +kernel
theorem dL_law_752 : decode cL_law 752 = .ok (.iconst 0, 1) := by decide +kernel
theorem dL_law_753 : decode cL_law 753 = .ok (.ireturn, 1) := by decide +kernel
theorem dL_law_754 : decode cL_law 754 = .ok (.iload 5, 2) := by decide +kernel
theorem dL_law_756 : decode cL_law 756 = .ok (.ifCond .ne 22, 3) := by decide +kernel
theorem dL_law_759 : decode cL_law 759 = .ok (.aload_n 3, 1) := by decide +kernel
theorem dL_law_760 : decode cL_law 760 = .ok (.iconst 0, 1) := by decide +kernel
theorem dL_law_761 : decode cL_law 761 = .ok (.laload, 1) := by decide +kernel
theorem dL_law_762 : decode cL_law 762 = .ok (.iload 6, 2) := by decide +kernel
theorem dL_law_764 : decode cL_law 764 = .ok (.ifCond .eq 7, 3) := by decide +kernel
theorem dL_law_767 : decode cL_law 767 = .ok (.lconst 1, 1) := by decide +kernel
theorem dL_law_768 : decode cL_law 768 = .ok (.goto 4, 3) := by decide +kernel
theorem dL_law_771 : decode cL_law 771 = .ok (.lconst 0, 1) := by decide +kernel
theorem dL_law_772 : decode cL_law 772 = .ok (.lcmp, 1) := by decide +kernel
theorem dL_law_773 : decode cL_law 773 = .ok (.ifCond .eq 5, 3) := by decide +kernel
theorem dL_law_776 : decode cL_law 776 = .ok (.iconst 0, 1) := by decide +kernel
theorem dL_law_777 : decode cL_law 777 = .ok (.ireturn, 1) := by decide +kernel
theorem dL_law_778 : decode cL_law 778 = .ok (.goto 1259, 3) := by decide +kernel
theorem dL_law_781 : decode cL_law 781 = .ok (.aload_n 1, 1) := by decide +kernel
theorem dL_law_782 : decode cL_law 782 = .ok (.aload_n 0, 1) := by decide +kernel
theorem dL_law_783 : decode cL_law 783 = .ok (.iload 4, 2) := by decide +kernel
theorem dL_law_785 : decode cL_law 785 = .ok (.iconst 1, 1) := by decide +kernel
theorem dL_law_786 : decode cL_law 786 = .ok (.iadd, 1) := by decide +kernel
theorem dL_law_787 : decode cL_law 787 = .ok (.iaload, 1) := by decide +kernel
theorem dL_law_788 : decode cL_law 788 = .ok (.aload_n 3, 1) := by decide +kernel
theorem dL_law_789 : decode cL_law 789 = .ok (.invokestatic 149, 3) := by decide +kernel
theorem dL_law_792 : decode cL_law 792 = .ok (.istore 5, 2) := by decide +kernel
theorem dL_law_794 : decode cL_law 794 = .ok (.aload_n 2, 1) := by decide +kernel
theorem dL_law_795 : decode cL_law 795 = .ok (.aload_n 0, 1) := by decide +kernel
theorem dL_law_796 : decode cL_law 796 = .ok (.iload 4, 2) := by decide +kernel
theorem dL_law_798 : decode cL_law 798 = .ok (.iconst 1, 1) := by decide +kernel
theorem dL_law_799 : decode cL_law 799 = .ok (.iadd, 1) := by decide +kernel
theorem dL_law_800 : decode cL_law 800 = .ok (.iaload, 1) := by decide +kernel
theorem dL_law_801 : decode cL_law 801 = .ok (.invokevirtual 151, 3) := by decide +kernel
theorem dL_law_804 : decode cL_law 804 = .ok (.istore 6, 2) := by decide +kernel
theorem dL_law_806 : decode cL_law 806 = .ok (.aload_n 2, 1) := by decide +kernel
theorem dL_law_807 : decode cL_law 807 = .ok (.invokevirtual 115, 3) := by decide +kernel
theorem dL_law_810 : decode cL_law 810 = .ok (.iload 5, 2) := by decide +kernel
theorem dL_law_812 : decode cL_law 812 = .ok (.if_icmp .eq 5, 3) := by decide +kernel
theorem dL_law_815 : decode cL_law 815 = .ok (.iconst 0, 1) := by decide +kernel
theorem dL_law_816 : decode cL_law 816 = .ok (.ireturn, 1) := by decide +kernel
theorem dL_law_817 : decode cL_law 817 = .ok (.iload 5, 2) := by decide +kernel
theorem dL_law_819 : decode cL_law 819 = .ok (.ifCond .ne 15, 3) := by decide +kernel
theorem dL_law_822 : decode cL_law 822 = .ok (.aload_n 3, 1) := by decide +kernel
theorem dL_law_823 : decode cL_law 823 = .ok (.iconst 0, 1) := by decide +kernel
theorem dL_law_824 : decode cL_law 824 = .ok (.laload, 1) := by decide +kernel
theorem dL_law_825 : decode cL_law 825 = .ok (.iload 6, 2) := by decide +kernel
theorem dL_law_827 : decode cL_law 827 = .ok (.i2l, 1) := by decide +kernel
theorem dL_law_828 : decode cL_law 828 = .ok (.lcmp, 1) := by decide +kernel
theorem dL_law_829 : decode cL_law 829 = .ok (.ifCond .eq 5, 3) := by decide +kernel
theorem dL_law_832 : decode cL_law 832 = .ok (.iconst 0, 1) := by decide +kernel
theorem dL_law_833 : decode cL_law 833 = .ok (.ireturn, 1) := by decide +kernel
theorem dL_law_834 : decode cL_law 834 = .ok (.goto 1203, 3) := by decide +kernel
theorem dL_law_837 : decode cL_law 837 = .ok (.aload_n 1, 1) := by decide +kernel
theorem dL_law_838 : decode cL_law 838 = .ok (.aload_n 0, 1) := by decide +kernel
theorem dL_law_839 : decode cL_law 839 = .ok (.iload 4, 2) := by decide +kernel
theorem dL_law_841 : decode cL_law 841 = .ok (.iconst 1, 1) := by decide +kernel
theorem dL_law_842 : decode cL_law 842 = .ok (.iadd, 1) := by decide +kernel
theorem dL_law_843 : decode cL_law 843 = .ok (.iaload, 1) := by decide +kernel
theorem dL_law_844 : decode cL_law 844 = .ok (.aload_n 0, 1) := by decide +kernel
theorem dL_law_845 : decode cL_law 845 = .ok (.iload 4, 2) := by decide +kernel
theorem dL_law_847 : decode cL_law 847 = .ok (.iconst 2, 1) := by decide +kernel
theorem dL_law_848 : decode cL_law 848 = .ok (.iadd, 1) := by decide +kernel
theorem dL_law_849 : decode cL_law 849 = .ok (.iaload, 1) := by decide +kernel
theorem dL_law_850 : decode cL_law 850 = .ok (.aload_n 0, 1) := by decide +kernel
theorem dL_law_851 : decode cL_law 851 = .ok (.iload 4, 2) := by decide +kernel
theorem dL_law_853 : decode cL_law 853 = .ok (.iconst 3, 1) := by decide +kernel
theorem dL_law_854 : decode cL_law 854 = .ok (.iadd, 1) := by decide +kernel
theorem dL_law_855 : decode cL_law 855 = .ok (.iaload, 1) := by decide +kernel
theorem dL_law_856 : decode cL_law 856 = .ok (.aload_n 3, 1) := by decide +kernel
theorem dL_law_857 : decode cL_law 857 = .ok (.invokestatic 152, 3) := by decide +kernel
theorem dL_law_860 : decode cL_law 860 = .ok (.istore 5, 2) := by decide +kernel
theorem dL_law_862 : decode cL_law 862 = .ok (.aload_n 2, 1) := by decide +kernel
theorem dL_law_863 : decode cL_law 863 = .ok (.aload_n 0, 1) := by decide +kernel
theorem dL_law_864 : decode cL_law 864 = .ok (.iload 4, 2) := by decide +kernel
theorem dL_law_866 : decode cL_law 866 = .ok (.iconst 1, 1) := by decide +kernel
theorem dL_law_867 : decode cL_law 867 = .ok (.iadd, 1) := by decide +kernel
theorem dL_law_868 : decode cL_law 868 = .ok (.iaload, 1) := by decide +kernel
theorem dL_law_869 : decode cL_law 869 = .ok (.aload_n 0, 1) := by decide +kernel
theorem dL_law_870 : decode cL_law 870 = .ok (.iload 4, 2) := by decide +kernel
theorem dL_law_872 : decode cL_law 872 = .ok (.iconst 2, 1) := by decide +kernel
theorem dL_law_873 : decode cL_law 873 = .ok (.iadd, 1) := by decide +kernel
theorem dL_law_874 : decode cL_law 874 = .ok (.iaload, 1) := by decide +kernel
theorem dL_law_875 : decode cL_law 875 = .ok (.aload_n 0, 1) := by decide +kernel
theorem dL_law_876 : decode cL_law 876 = .ok (.iload 4, 2) := by decide +kernel
theorem dL_law_878 : decode cL_law 878 = .ok (.iconst 3, 1) := by decide +kernel
theorem dL_law_879 : decode cL_law 879 = .ok (.iadd, 1) := by decide +kernel
theorem dL_law_880 : decode cL_law 880 = .ok (.iaload, 1) := by decide +kernel
theorem dL_law_881 : decode cL_law 881 = .ok (.invokevirtual 154, 3) := by decide +kernel
theorem dL_law_884 : decode cL_law 884 = .ok (.istore 6, 2) := by decide +kernel
theorem dL_law_886 : decode cL_law 886 = .ok (.aload_n 2, 1) := by decide +kernel
theorem dL_law_887 : decode cL_law 887 = .ok (.invokevirtual 115, 3) := by decide +kernel
theorem dL_law_890 : decode cL_law 890 = .ok (.iload 5, 2) := by decide +kernel
theorem dL_law_892 : decode cL_law 892 = .ok (.if_icmp .eq 5, 3) := by decide +kernel
theorem dL_law_895 : decode cL_law 895 = .ok (.iconst 0, 1) := by decide +kernel
theorem dL_law_896 : decode cL_law 896 = .ok (.ireturn, 1) := by decide +kernel
theorem dL_law_897 : decode cL_law 897 = .ok (.iload 5, 2) := by decide +kernel
theorem dL_law_899 : decode cL_law 899 = .ok (.ifCond .ne 15, 3) := by decide +kernel
theorem dL_law_902 : decode cL_law 902 = .ok (.aload_n 3, 1) := by decide +kernel
theorem dL_law_903 : decode cL_law 903 = .ok (.iconst 0, 1) := by decide +kernel
theorem dL_law_904 : decode cL_law 904 = .ok (.laload, 1) := by decide +kernel
theorem dL_law_905 : decode cL_law 905 = .ok (.iload 6, 2) := by decide +kernel
theorem dL_law_907 : decode cL_law 907 = .ok (.i2l, 1) := by decide +kernel
theorem dL_law_908 : decode cL_law 908 = .ok (.lcmp, 1) := by decide +kernel
theorem dL_law_909 : decode cL_law 909 = .ok (.ifCond .eq 5, 3) := by decide +kernel
theorem dL_law_912 : decode cL_law 912 = .ok (.iconst 0, 1) := by decide +kernel
theorem dL_law_913 : decode cL_law 913 = .ok (.ireturn, 1) := by decide +kernel
theorem dL_law_914 : decode cL_law 914 = .ok (.goto 1123, 3) := by decide +kernel
theorem dL_law_917 : decode cL_law 917 = .ok (.aload_n 1, 1) := by decide +kernel
theorem dL_law_918 : decode cL_law 918 = .ok (.aload_n 0, 1) := by decide +kernel
theorem dL_law_919 : decode cL_law 919 = .ok (.iload 4, 2) := by decide +kernel
theorem dL_law_921 : decode cL_law 921 = .ok (.iconst 1, 1) := by decide +kernel
theorem dL_law_922 : decode cL_law 922 = .ok (.iadd, 1) := by decide +kernel
theorem dL_law_923 : decode cL_law 923 = .ok (.iaload, 1) := by decide +kernel
theorem dL_law_924 : decode cL_law 924 = .ok (.aload_n 0, 1) := by decide +kernel
theorem dL_law_925 : decode cL_law 925 = .ok (.iload 4, 2) := by decide +kernel
theorem dL_law_927 : decode cL_law 927 = .ok (.iconst 2, 1) := by decide +kernel
theorem dL_law_928 : decode cL_law 928 = .ok (.iadd, 1) := by decide +kernel
theorem dL_law_929 : decode cL_law 929 = .ok (.iaload, 1) := by decide +kernel
theorem dL_law_930 : decode cL_law 930 = .ok (.aload_n 0, 1) := by decide +kernel
theorem dL_law_931 : decode cL_law 931 = .ok (.iload 4, 2) := by decide +kernel
theorem dL_law_933 : decode cL_law 933 = .ok (.iconst 3, 1) := by decide +kernel
theorem dL_law_934 : decode cL_law 934 = .ok (.iadd, 1) := by decide +kernel
theorem dL_law_935 : decode cL_law 935 = .ok (.iaload, 1) := by decide +kernel
theorem dL_law_936 : decode cL_law 936 = .ok (.aload_n 3, 1) := by decide +kernel
theorem dL_law_937 : decode cL_law 937 = .ok (.invokestatic 155, 3) := by decide +kernel
theorem dL_law_940 : decode cL_law 940 = .ok (.istore 5, 2) := by decide +kernel
theorem dL_law_942 : decode cL_law 942 = .ok (.aload_n 2, 1) := by decide +kernel
theorem dL_law_943 : decode cL_law 943 = .ok (.aload_n 0, 1) := by decide +kernel
theorem dL_law_944 : decode cL_law 944 = .ok (.iload 4, 2) := by decide +kernel
theorem dL_law_946 : decode cL_law 946 = .ok (.iconst 1, 1) := by decide +kernel
theorem dL_law_947 : decode cL_law 947 = .ok (.iadd, 1) := by decide +kernel
theorem dL_law_948 : decode cL_law 948 = .ok (.iaload, 1) := by decide +kernel
theorem dL_law_949 : decode cL_law 949 = .ok (.aload_n 0, 1) := by decide +kernel
theorem dL_law_950 : decode cL_law 950 = .ok (.iload 4, 2) := by decide +kernel
theorem dL_law_952 : decode cL_law 952 = .ok (.iconst 2, 1) := by decide +kernel
theorem dL_law_953 : decode cL_law 953 = .ok (.iadd, 1) := by decide +kernel
theorem dL_law_954 : decode cL_law 954 = .ok (.iaload, 1) := by decide +kernel
theorem dL_law_955 : decode cL_law 955 = .ok (.aload_n 0, 1) := by decide +kernel
theorem dL_law_956 : decode cL_law 956 = .ok (.iload 4, 2) := by decide +kernel
theorem dL_law_958 : decode cL_law 958 = .ok (.iconst 3, 1) := by decide +kernel
theorem dL_law_959 : decode cL_law 959 = .ok (.iadd, 1) := by decide +kernel
theorem dL_law_960 : decode cL_law 960 = .ok (.iaload, 1) := by decide +kernel
theorem dL_law_961 : decode cL_law 961 = .ok (.invokevirtual 157, 3) := by decide +kernel
theorem dL_law_964 : decode cL_law 964 = .ok (.istore 6, 2) := by decide +kernel
theorem dL_law_966 : decode cL_law 966 = .ok (.aload_n 2, 1) := by decide +kernel
theorem dL_law_967 : decode cL_law 967 = .ok (.invokevirtual 115, 3) := by decide +kernel
theorem dL_law_970 : decode cL_law 970 = .ok (.iload 5, 2) := by decide +kernel
theorem dL_law_972 : decode cL_law 972 = .ok (.if_icmp .eq 5, 3) := by decide +kernel
theorem dL_law_975 : decode cL_law 975 = .ok (.iconst 0, 1) := by decide +kernel
theorem dL_law_976 : decode cL_law 976 = .ok (.ireturn, 1) := by decide +kernel
theorem dL_law_977 : decode cL_law 977 = .ok (.iload 5, 2) := by decide +kernel
theorem dL_law_979 : decode cL_law 979 = .ok (.ifCond .ne 15, 3) := by decide +kernel
theorem dL_law_982 : decode cL_law 982 = .ok (.aload_n 3, 1) := by decide +kernel
theorem dL_law_983 : decode cL_law 983 = .ok (.iconst 0, 1) := by decide +kernel
theorem dL_law_984 : decode cL_law 984 = .ok (.laload, 1) := by decide +kernel
theorem dL_law_985 : decode cL_law 985 = .ok (.iload 6, 2) := by decide +kernel
theorem dL_law_987 : decode cL_law 987 = .ok (.i2l, 1) := by decide +kernel
theorem dL_law_988 : decode cL_law 988 = .ok (.lcmp, 1) := by decide +kernel
theorem dL_law_989 : decode cL_law 989 = .ok (.ifCond .eq 5, 3) := by decide +kernel
theorem dL_law_992 : decode cL_law 992 = .ok (.iconst 0, 1) := by decide +kernel
theorem dL_law_993 : decode cL_law 993 = .ok (.ireturn, 1) := by decide +kernel
theorem dL_law_994 : decode cL_law 994 = .ok (.goto 1043, 3) := by decide +kernel
theorem dL_law_997 : decode cL_law 997 = .ok (.aload_n 1, 1) := by decide +kernel
theorem dL_law_998 : decode cL_law 998 = .ok (.aload_n 0, 1) := by decide +kernel
theorem dL_law_999 : decode cL_law 999 = .ok (.iload 4, 2) := by decide +kernel
theorem dL_law_1001 : decode cL_law 1001 = .ok (.iconst 1, 1) := by decide +kernel
theorem dL_law_1002 : decode cL_law 1002 = .ok (.iadd, 1) := by decide +kernel
theorem dL_law_1003 : decode cL_law 1003 = .ok (.iaload, 1) := by decide +kernel
theorem dL_law_1004 : decode cL_law 1004 = .ok (.aload_n 3, 1) := by decide +kernel
theorem dL_law_1005 : decode cL_law 1005 = .ok (.invokestatic 158, 3) := by decide +kernel
theorem dL_law_1008 : decode cL_law 1008 = .ok (.istore 5, 2) := by decide +kernel
theorem dL_law_1010 : decode cL_law 1010 = .ok (.aload_n 2, 1) := by decide +kernel
theorem dL_law_1011 : decode cL_law 1011 = .ok (.aload_n 0, 1) := by decide +kernel
theorem dL_law_1012 : decode cL_law 1012 = .ok (.iload 4, 2) := by decide +kernel
theorem dL_law_1014 : decode cL_law 1014 = .ok (.iconst 1, 1) := by decide +kernel
theorem dL_law_1015 : decode cL_law 1015 = .ok (.iadd, 1) := by decide +kernel
theorem dL_law_1016 : decode cL_law 1016 = .ok (.iaload, 1) := by decide +kernel
theorem dL_law_1017 : decode cL_law 1017 = .ok (.invokevirtual 160, 3) := by decide +kernel
theorem dL_law_1020 : decode cL_law 1020 = .ok (.istore 6, 2) := by decide +kernel
theorem dL_law_1022 : decode cL_law 1022 = .ok (.aload_n 2, 1) := by decide +kernel
theorem dL_law_1023 : decode cL_law 1023 = .ok (.invokevirtual 115, 3) := by decide +kernel
theorem dL_law_1026 : decode cL_law 1026 = .ok (.iload 5, 2) := by decide +kernel
theorem dL_law_1028 : decode cL_law 1028 = .ok (.if_icmp .eq 5, 3) := by decide +kernel
theorem dL_law_1031 : decode cL_law 1031 = .ok (.iconst 0, 1) := by decide +kernel
theorem dL_law_1032 : decode cL_law 1032 = .ok (.ireturn, 1) := by decide +kernel
theorem dL_law_1033 : decode cL_law 1033 = .ok (.iload 5, 2) := by decide +kernel
theorem dL_law_1035 : decode cL_law 1035 = .ok (.ifCond .ne 15, 3) := by decide +kernel
theorem dL_law_1038 : decode cL_law 1038 = .ok (.aload_n 3, 1) := by decide +kernel
theorem dL_law_1039 : decode cL_law 1039 = .ok (.iconst 0, 1) := by decide +kernel
theorem dL_law_1040 : decode cL_law 1040 = .ok (.laload, 1) := by decide +kernel
theorem dL_law_1041 : decode cL_law 1041 = .ok (.iload 6, 2) := by decide +kernel
theorem dL_law_1043 : decode cL_law 1043 = .ok (.i2l, 1) := by decide +kernel
theorem dL_law_1044 : decode cL_law 1044 = .ok (.lcmp, 1) := by decide +kernel
theorem dL_law_1045 : decode cL_law 1045 = .ok (.ifCond .eq 5, 3) := by decide +kernel
theorem dL_law_1048 : decode cL_law 1048 = .ok (.iconst 0, 1) := by decide +kernel
theorem dL_law_1049 : decode cL_law 1049 = .ok (.ireturn, 1) := by decide +kernel
theorem dL_law_1050 : decode cL_law 1050 = .ok (.goto 987, 3) := by decide +kernel
theorem dL_law_1053 : decode cL_law 1053 = .ok (.aload_n 1, 1) := by decide +kernel
theorem dL_law_1054 : decode cL_law 1054 = .ok (.aload_n 0, 1) := by decide +kernel
theorem dL_law_1055 : decode cL_law 1055 = .ok (.iload 4, 2) := by decide +kernel
theorem dL_law_1057 : decode cL_law 1057 = .ok (.iconst 1, 1) := by decide +kernel
theorem dL_law_1058 : decode cL_law 1058 = .ok (.iadd, 1) := by decide +kernel
theorem dL_law_1059 : decode cL_law 1059 = .ok (.iaload, 1) := by decide +kernel
theorem dL_law_1060 : decode cL_law 1060 = .ok (.aload_n 3, 1) := by decide +kernel
theorem dL_law_1061 : decode cL_law 1061 = .ok (.invokestatic 161, 3) := by decide +kernel
theorem dL_law_1064 : decode cL_law 1064 = .ok (.istore 5, 2) := by decide +kernel
theorem dL_law_1066 : decode cL_law 1066 = .ok (.aload_n 2, 1) := by decide +kernel
theorem dL_law_1067 : decode cL_law 1067 = .ok (.aload_n 0, 1) := by decide +kernel
theorem dL_law_1068 : decode cL_law 1068 = .ok (.iload 4, 2) := by decide +kernel
theorem dL_law_1070 : decode cL_law 1070 = .ok (.iconst 1, 1) := by decide +kernel
theorem dL_law_1071 : decode cL_law 1071 = .ok (.iadd, 1) := by decide +kernel
theorem dL_law_1072 : decode cL_law 1072 = .ok (.iaload, 1) := by decide +kernel
theorem dL_law_1073 : decode cL_law 1073 = .ok (.invokevirtual 163, 3) := by decide +kernel
theorem dL_law_1076 : decode cL_law 1076 = .ok (.istore 6, 2) := by decide +kernel
theorem dL_law_1078 : decode cL_law 1078 = .ok (.aload_n 2, 1) := by decide +kernel
theorem dL_law_1079 : decode cL_law 1079 = .ok (.invokevirtual 115, 3) := by decide +kernel
theorem dL_law_1082 : decode cL_law 1082 = .ok (.iload 5, 2) := by decide +kernel
theorem dL_law_1084 : decode cL_law 1084 = .ok (.if_icmp .eq 5, 3) := by decide +kernel
theorem dL_law_1087 : decode cL_law 1087 = .ok (.iconst 0, 1) := by decide +kernel
theorem dL_law_1088 : decode cL_law 1088 = .ok (.ireturn, 1) := by decide +kernel
theorem dL_law_1089 : decode cL_law 1089 = .ok (.iload 5, 2) := by decide +kernel
theorem dL_law_1091 : decode cL_law 1091 = .ok (.ifCond .ne 15, 3) := by decide +kernel
theorem dL_law_1094 : decode cL_law 1094 = .ok (.aload_n 3, 1) := by decide +kernel
theorem dL_law_1095 : decode cL_law 1095 = .ok (.iconst 0, 1) := by decide +kernel
theorem dL_law_1096 : decode cL_law 1096 = .ok (.laload, 1) := by decide +kernel
theorem dL_law_1097 : decode cL_law 1097 = .ok (.iload 6, 2) := by decide +kernel
theorem dL_law_1099 : decode cL_law 1099 = .ok (.i2l, 1) := by decide +kernel
theorem dL_law_1100 : decode cL_law 1100 = .ok (.lcmp, 1) := by decide +kernel
theorem dL_law_1101 : decode cL_law 1101 = .ok (.ifCond .eq 5, 3) := by decide +kernel
theorem dL_law_1104 : decode cL_law 1104 = .ok (.iconst 0, 1) := by decide +kernel
theorem dL_law_1105 : decode cL_law 1105 = .ok (.ireturn, 1) := by decide +kernel
theorem dL_law_1106 : decode cL_law 1106 = .ok (.goto 931, 3) := by decide +kernel
theorem dL_law_1109 : decode cL_law 1109 = .ok (.aload_n 1, 1) := by decide +kernel
theorem dL_law_1110 : decode cL_law 1110 = .ok (.aload_n 0, 1) := by decide +kernel
theorem dL_law_1111 : decode cL_law 1111 = .ok (.iload 4, 2) := by decide +kernel
theorem dL_law_1113 : decode cL_law 1113 = .ok (.iconst 1, 1) := by decide +kernel
theorem dL_law_1114 : decode cL_law 1114 = .ok (.iadd, 1) := by decide +kernel
theorem dL_law_1115 : decode cL_law 1115 = .ok (.iaload, 1) := by decide +kernel
theorem dL_law_1116 : decode cL_law 1116 = .ok (.aload_n 0, 1) := by decide +kernel
theorem dL_law_1117 : decode cL_law 1117 = .ok (.iload 4, 2) := by decide +kernel
theorem dL_law_1119 : decode cL_law 1119 = .ok (.iconst 2, 1) := by decide +kernel
theorem dL_law_1120 : decode cL_law 1120 = .ok (.iadd, 1) := by decide +kernel
theorem dL_law_1121 : decode cL_law 1121 = .ok (.iaload, 1) := by decide +kernel
theorem dL_law_1122 : decode cL_law 1122 = .ok (.aload_n 0, 1) := by decide +kernel
theorem dL_law_1123 : decode cL_law 1123 = .ok (.iload 4, 2) := by decide +kernel
theorem dL_law_1125 : decode cL_law 1125 = .ok (.iconst 3, 1) := by decide +kernel
theorem dL_law_1126 : decode cL_law 1126 = .ok (.iadd, 1) := by decide +kernel
theorem dL_law_1127 : decode cL_law 1127 = .ok (.iaload, 1) := by decide +kernel
theorem dL_law_1128 : decode cL_law 1128 = .ok (.aload_n 3, 1) := by decide +kernel
theorem dL_law_1129 : decode cL_law 1129 = .ok (.invokestatic 164, 3) := by decide +kernel
theorem dL_law_1132 : decode cL_law 1132 = .ok (.istore 5, 2) := by decide +kernel
theorem dL_law_1134 : decode cL_law 1134 = .ok (.aload_n 2, 1) := by decide +kernel
theorem dL_law_1135 : decode cL_law 1135 = .ok (.aload_n 0, 1) := by decide +kernel
theorem dL_law_1136 : decode cL_law 1136 = .ok (.iload 4, 2) := by decide +kernel
theorem dL_law_1138 : decode cL_law 1138 = .ok (.iconst 1, 1) := by decide +kernel
theorem dL_law_1139 : decode cL_law 1139 = .ok (.iadd, 1) := by decide +kernel
theorem dL_law_1140 : decode cL_law 1140 = .ok (.iaload, 1) := by decide +kernel
theorem dL_law_1141 : decode cL_law 1141 = .ok (.aload_n 0, 1) := by decide +kernel
theorem dL_law_1142 : decode cL_law 1142 = .ok (.iload 4, 2) := by decide +kernel
theorem dL_law_1144 : decode cL_law 1144 = .ok (.iconst 2, 1) := by decide +kernel
theorem dL_law_1145 : decode cL_law 1145 = .ok (.iadd, 1) := by decide +kernel
theorem dL_law_1146 : decode cL_law 1146 = .ok (.iaload, 1) := by decide +kernel
theorem dL_law_1147 : decode cL_law 1147 = .ok (.aload_n 0, 1) := by decide +kernel
theorem dL_law_1148 : decode cL_law 1148 = .ok (.iload 4, 2) := by decide +kernel
theorem dL_law_1150 : decode cL_law 1150 = .ok (.iconst 3, 1) := by decide +kernel
theorem dL_law_1151 : decode cL_law 1151 = .ok (.iadd, 1) := by decide +kernel
theorem dL_law_1152 : decode cL_law 1152 = .ok (.iaload, 1) := by decide +kernel
theorem dL_law_1153 : decode cL_law 1153 = .ok (.invokevirtual 166, 3) := by decide +kernel
theorem dL_law_1156 : decode cL_law 1156 = .ok (.istore 6, 2) := by decide +kernel
theorem dL_law_1158 : decode cL_law 1158 = .ok (.aload_n 2, 1) := by decide +kernel
theorem dL_law_1159 : decode cL_law 1159 = .ok (.invokevirtual 115, 3) := by decide +kernel
theorem dL_law_1162 : decode cL_law 1162 = .ok (.iload 5, 2) := by decide +kernel
theorem dL_law_1164 : decode cL_law 1164 = .ok (.if_icmp .eq 5, 3) := by decide +kernel
theorem dL_law_1167 : decode cL_law 1167 = .ok (.iconst 0, 1) := by decide +kernel
theorem dL_law_1168 : decode cL_law 1168 = .ok (.ireturn, 1) := by decide +kernel
theorem dL_law_1169 : decode cL_law 1169 = .ok (.iload 5, 2) := by decide +kernel
theorem dL_law_1171 : decode cL_law 1171 = .ok (.ifCond .ne 15, 3) := by decide +kernel
theorem dL_law_1174 : decode cL_law 1174 = .ok (.aload_n 3, 1) := by decide +kernel
theorem dL_law_1175 : decode cL_law 1175 = .ok (.iconst 0, 1) := by decide +kernel
theorem dL_law_1176 : decode cL_law 1176 = .ok (.laload, 1) := by decide +kernel
theorem dL_law_1177 : decode cL_law 1177 = .ok (.iload 6, 2) := by decide +kernel
theorem dL_law_1179 : decode cL_law 1179 = .ok (.i2l, 1) := by decide +kernel
theorem dL_law_1180 : decode cL_law 1180 = .ok (.lcmp, 1) := by decide +kernel
theorem dL_law_1181 : decode cL_law 1181 = .ok (.ifCond .eq 5, 3) := by decide +kernel
theorem dL_law_1184 : decode cL_law 1184 = .ok (.iconst 0, 1) := by decide +kernel
theorem dL_law_1185 : decode cL_law 1185 = .ok (.ireturn, 1) := by decide +kernel
theorem dL_law_1186 : decode cL_law 1186 = .ok (.goto 851, 3) := by decide +kernel
theorem dL_law_1189 : decode cL_law 1189 = .ok (.aload_n 1, 1) := by decide +kernel
theorem dL_law_1190 : decode cL_law 1190 = .ok (.aload_n 0, 1) := by decide +kernel
theorem dL_law_1191 : decode cL_law 1191 = .ok (.iload 4, 2) := by decide +kernel
theorem dL_law_1193 : decode cL_law 1193 = .ok (.iconst 1, 1) := by decide +kernel
theorem dL_law_1194 : decode cL_law 1194 = .ok (.iadd, 1) := by decide +kernel
theorem dL_law_1195 : decode cL_law 1195 = .ok (.iaload, 1) := by decide +kernel
theorem dL_law_1196 : decode cL_law 1196 = .ok (.aload_n 0, 1) := by decide +kernel
theorem dL_law_1197 : decode cL_law 1197 = .ok (.iload 4, 2) := by decide +kernel
theorem dL_law_1199 : decode cL_law 1199 = .ok (.iconst 2, 1) := by decide +kernel
theorem dL_law_1200 : decode cL_law 1200 = .ok (.iadd, 1) := by decide +kernel
theorem dL_law_1201 : decode cL_law 1201 = .ok (.iaload, 1) := by decide +kernel
theorem dL_law_1202 : decode cL_law 1202 = .ok (.aload_n 0, 1) := by decide +kernel
theorem dL_law_1203 : decode cL_law 1203 = .ok (.iload 4, 2) := by decide +kernel
theorem dL_law_1205 : decode cL_law 1205 = .ok (.iconst 3, 1) := by decide +kernel
theorem dL_law_1206 : decode cL_law 1206 = .ok (.iadd, 1) := by decide +kernel
theorem dL_law_1207 : decode cL_law 1207 = .ok (.iaload, 1) := by decide +kernel
theorem dL_law_1208 : decode cL_law 1208 = .ok (.aload_n 3, 1) := by decide +kernel
theorem dL_law_1209 : decode cL_law 1209 = .ok (.invokestatic 167, 3) := by decide +kernel
theorem dL_law_1212 : decode cL_law 1212 = .ok (.istore 5, 2) := by decide +kernel
theorem dL_law_1214 : decode cL_law 1214 = .ok (.aload_n 2, 1) := by decide +kernel
theorem dL_law_1215 : decode cL_law 1215 = .ok (.aload_n 0, 1) := by decide +kernel
theorem dL_law_1216 : decode cL_law 1216 = .ok (.iload 4, 2) := by decide +kernel
theorem dL_law_1218 : decode cL_law 1218 = .ok (.iconst 1, 1) := by decide +kernel
theorem dL_law_1219 : decode cL_law 1219 = .ok (.iadd, 1) := by decide +kernel
theorem dL_law_1220 : decode cL_law 1220 = .ok (.iaload, 1) := by decide +kernel
theorem dL_law_1221 : decode cL_law 1221 = .ok (.aload_n 0, 1) := by decide +kernel
theorem dL_law_1222 : decode cL_law 1222 = .ok (.iload 4, 2) := by decide +kernel
theorem dL_law_1224 : decode cL_law 1224 = .ok (.iconst 2, 1) := by decide +kernel
theorem dL_law_1225 : decode cL_law 1225 = .ok (.iadd, 1) := by decide +kernel
theorem dL_law_1226 : decode cL_law 1226 = .ok (.iaload, 1) := by decide +kernel
theorem dL_law_1227 : decode cL_law 1227 = .ok (.aload_n 0, 1) := by decide +kernel
theorem dL_law_1228 : decode cL_law 1228 = .ok (.iload 4, 2) := by decide +kernel
theorem dL_law_1230 : decode cL_law 1230 = .ok (.iconst 3, 1) := by decide +kernel
theorem dL_law_1231 : decode cL_law 1231 = .ok (.iadd, 1) := by decide +kernel
theorem dL_law_1232 : decode cL_law 1232 = .ok (.iaload, 1) := by decide +kernel
theorem dL_law_1233 : decode cL_law 1233 = .ok (.invokevirtual 169, 3) := by decide +kernel
theorem dL_law_1236 : decode cL_law 1236 = .ok (.istore 6, 2) := by decide +kernel
theorem dL_law_1238 : decode cL_law 1238 = .ok (.aload_n 2, 1) := by decide +kernel
theorem dL_law_1239 : decode cL_law 1239 = .ok (.invokevirtual 115, 3) := by decide +kernel
theorem dL_law_1242 : decode cL_law 1242 = .ok (.iload 5, 2) := by decide +kernel
theorem dL_law_1244 : decode cL_law 1244 = .ok (.if_icmp .eq 5, 3) := by decide +kernel
theorem dL_law_1247 : decode cL_law 1247 = .ok (.iconst 0, 1) := by decide +kernel
theorem dL_law_1248 : decode cL_law 1248 = .ok (.ireturn, 1) := by decide +kernel
theorem dL_law_1249 : decode cL_law 1249 = .ok (.iload 5, 2) := by decide +kernel
theorem dL_law_1251 : decode cL_law 1251 = .ok (.ifCond .ne 15, 3) := by decide +kernel
theorem dL_law_1254 : decode cL_law 1254 = .ok (.aload_n 3, 1) := by decide +kernel
theorem dL_law_1255 : decode cL_law 1255 = .ok (.iconst 0, 1) := by decide +kernel
theorem dL_law_1256 : decode cL_law 1256 = .ok (.laload, 1) := by decide +kernel
theorem dL_law_1257 : decode cL_law 1257 = .ok (.iload 6, 2) := by decide +kernel
theorem dL_law_1259 : decode cL_law 1259 = .ok (.i2l, 1) := by decide +kernel
theorem dL_law_1260 : decode cL_law 1260 = .ok (.lcmp, 1) := by decide +kernel
theorem dL_law_1261 : decode cL_law 1261 = .ok (.ifCond .eq 5, 3) := by decide +kernel
theorem dL_law_1264 : decode cL_law 1264 = .ok (.iconst 0, 1) := by decide +kernel
theorem dL_law_1265 : decode cL_law 1265 = .ok (.ireturn, 1) := by decide +kernel
theorem dL_law_1266 : decode cL_law 1266 = .ok (.goto 771, 3) := by decide +kernel
theorem dL_law_1269 : decode cL_law 1269 = .ok (.aload_n 1, 1) := by decide +kernel
theorem dL_law_1270 : decode cL_law 1270 = .ok (.aload_n 0, 1) := by decide +kernel
theorem dL_law_1271 : decode cL_law 1271 = .ok (.iload 4, 2) := by decide +kernel
theorem dL_law_1273 : decode cL_law 1273 = .ok (.iconst 1, 1) := by decide +kernel
theorem dL_law_1274 : decode cL_law 1274 = .ok (.iadd, 1) := by decide +kernel
theorem dL_law_1275 : decode cL_law 1275 = .ok (.iaload, 1) := by decide +kernel
theorem dL_law_1276 : decode cL_law 1276 = .ok (.aload_n 3, 1) := by decide +kernel
theorem dL_law_1277 : decode cL_law 1277 = .ok (.invokestatic 170, 3) := by decide +kernel
theorem dL_law_1280 : decode cL_law 1280 = .ok (.istore 5, 2) := by decide +kernel
theorem dL_law_1282 : decode cL_law 1282 = .ok (.aload_n 2, 1) := by decide +kernel
theorem dL_law_1283 : decode cL_law 1283 = .ok (.aload_n 0, 1) := by decide +kernel
theorem dL_law_1284 : decode cL_law 1284 = .ok (.iload 4, 2) := by decide +kernel
theorem dL_law_1286 : decode cL_law 1286 = .ok (.iconst 1, 1) := by decide +kernel
theorem dL_law_1287 : decode cL_law 1287 = .ok (.iadd, 1) := by decide +kernel
theorem dL_law_1288 : decode cL_law 1288 = .ok (.iaload, 1) := by decide +kernel
theorem dL_law_1289 : decode cL_law 1289 = .ok (.invokevirtual 172, 3) := by decide +kernel
theorem dL_law_1292 : decode cL_law 1292 = .ok (.istore 6, 2) := by decide +kernel
theorem dL_law_1294 : decode cL_law 1294 = .ok (.aload_n 2, 1) := by decide +kernel
theorem dL_law_1295 : decode cL_law 1295 = .ok (.invokevirtual 115, 3) := by decide +kernel
theorem dL_law_1298 : decode cL_law 1298 = .ok (.iload 5, 2) := by decide +kernel
theorem dL_law_1300 : decode cL_law 1300 = .ok (.if_icmp .eq 5, 3) := by decide +kernel
theorem dL_law_1303 : decode cL_law 1303 = .ok (.iconst 0, 1) := by decide +kernel
theorem dL_law_1304 : decode cL_law 1304 = .ok (.ireturn, 1) := by decide +kernel
theorem dL_law_1305 : decode cL_law 1305 = .ok (.iload 5, 2) := by decide +kernel
theorem dL_law_1307 : decode cL_law 1307 = .ok (.ifCond .ne 15, 3) := by decide +kernel
theorem dL_law_1310 : decode cL_law 1310 = .ok (.aload_n 3, 1) := by decide +kernel
theorem dL_law_1311 : decode cL_law 1311 = .ok (.iconst 0, 1) := by decide +kernel
theorem dL_law_1312 : decode cL_law 1312 = .ok (.laload, 1) := by decide +kernel
theorem dL_law_1313 : decode cL_law 1313 = .ok (.iload 6, 2) := by decide +kernel
theorem dL_law_1315 : decode cL_law 1315 = .ok (.i2l, 1) := by decide +kernel
theorem dL_law_1316 : decode cL_law 1316 = .ok (.lcmp, 1) := by decide +kernel
theorem dL_law_1317 : decode cL_law 1317 = .ok (.ifCond .eq 5, 3) := by decide +kernel
theorem dL_law_1320 : decode cL_law 1320 = .ok (.iconst 0, 1) := by decide +kernel
theorem dL_law_1321 : decode cL_law 1321 = .ok (.ireturn, 1) := by decide +kernel
theorem dL_law_1322 : decode cL_law 1322 = .ok (.goto 715, 3) := by decide +kernel
theorem dL_law_1325 : decode cL_law 1325 = .ok (.aload_n 1, 1) := by decide +kernel
theorem dL_law_1326 : decode cL_law 1326 = .ok (.aload_n 0, 1) := by decide +kernel
theorem dL_law_1327 : decode cL_law 1327 = .ok (.iload 4, 2) := by decide +kernel
theorem dL_law_1329 : decode cL_law 1329 = .ok (.iconst 1, 1) := by decide +kernel
theorem dL_law_1330 : decode cL_law 1330 = .ok (.iadd, 1) := by decide +kernel
theorem dL_law_1331 : decode cL_law 1331 = .ok (.iaload, 1) := by decide +kernel
theorem dL_law_1332 : decode cL_law 1332 = .ok (.aload_n 3, 1) := by decide +kernel
theorem dL_law_1333 : decode cL_law 1333 = .ok (.invokestatic 173, 3) := by decide +kernel
theorem dL_law_1336 : decode cL_law 1336 = .ok (.istore 5, 2) := by decide +kernel
theorem dL_law_1338 : decode cL_law 1338 = .ok (.aload_n 2, 1) := by decide +kernel
theorem dL_law_1339 : decode cL_law 1339 = .ok (.aload_n 0, 1) := by decide +kernel
theorem dL_law_1340 : decode cL_law 1340 = .ok (.iload 4, 2) := by decide +kernel
theorem dL_law_1342 : decode cL_law 1342 = .ok (.iconst 1, 1) := by decide +kernel
theorem dL_law_1343 : decode cL_law 1343 = .ok (.iadd, 1) := by decide +kernel
theorem dL_law_1344 : decode cL_law 1344 = .ok (.iaload, 1) := by decide +kernel
theorem dL_law_1345 : decode cL_law 1345 = .ok (.invokevirtual 175, 3) := by decide +kernel
theorem dL_law_1348 : decode cL_law 1348 = .ok (.istore 6, 2) := by decide +kernel
theorem dL_law_1350 : decode cL_law 1350 = .ok (.aload_n 2, 1) := by decide +kernel
theorem dL_law_1351 : decode cL_law 1351 = .ok (.invokevirtual 115, 3) := by decide +kernel
theorem dL_law_1354 : decode cL_law 1354 = .ok (.iload 5, 2) := by decide +kernel
theorem dL_law_1356 : decode cL_law 1356 = .ok (.if_icmp .eq 5, 3) := by decide +kernel
theorem dL_law_1359 : decode cL_law 1359 = .ok (.iconst 0, 1) := by decide +kernel
theorem dL_law_1360 : decode cL_law 1360 = .ok (.ireturn, 1) := by decide +kernel
theorem dL_law_1361 : decode cL_law 1361 = .ok (.iload 5, 2) := by decide +kernel
theorem dL_law_1363 : decode cL_law 1363 = .ok (.ifCond .ne 15, 3) := by decide +kernel
theorem dL_law_1366 : decode cL_law 1366 = .ok (.aload_n 3, 1) := by decide +kernel
theorem dL_law_1367 : decode cL_law 1367 = .ok (.iconst 0, 1) := by decide +kernel
theorem dL_law_1368 : decode cL_law 1368 = .ok (.laload, 1) := by decide +kernel
theorem dL_law_1369 : decode cL_law 1369 = .ok (.iload 6, 2) := by decide +kernel
theorem dL_law_1371 : decode cL_law 1371 = .ok (.i2l, 1) := by decide +kernel
theorem dL_law_1372 : decode cL_law 1372 = .ok (.lcmp, 1) := by decide +kernel
theorem dL_law_1373 : decode cL_law 1373 = .ok (.ifCond .eq 5, 3) := by decide +kernel
theorem dL_law_1376 : decode cL_law 1376 = .ok (.iconst 0, 1) := by decide +kernel
theorem dL_law_1377 : decode cL_law 1377 = .ok (.ireturn, 1) := by decide +kernel
theorem dL_law_1378 : decode cL_law 1378 = .ok (.goto 659, 3) := by decide +kernel
theorem dL_law_1381 : decode cL_law 1381 = .ok (.aload_n 1, 1) := by decide +kernel
theorem dL_law_1382 : decode cL_law 1382 = .ok (.invokevirtual 176, 3) := by decide +kernel
theorem dL_law_1385 : decode cL_law 1385 = .ok (.aload_n 2, 1) := by decide +kernel
theorem dL_law_1386 : decode cL_law 1386 = .ok (.invokevirtual 179, 3) := by decide +kernel
theorem dL_law_1389 : decode cL_law 1389 = .ok (.if_icmp .eq 648, 3) := by decide +kernel
theorem dL_law_1392 : decode cL_law 1392 = .ok (.iconst 0, 1) := by decide +kernel
theorem dL_law_1393 : decode cL_law 1393 = .ok (.ireturn, 1) := by decide +kernel
theorem dL_law_1394 : decode cL_law 1394 = .ok (.aload_n 1, 1) := by decide +kernel
theorem dL_law_1395 : decode cL_law 1395 = .ok (.aload_n 0, 1) := by decide +kernel
theorem dL_law_1396 : decode cL_law 1396 = .ok (.iload 4, 2) := by decide +kernel
theorem dL_law_1398 : decode cL_law 1398 = .ok (.iconst 1, 1) := by decide +kernel
theorem dL_law_1399 : decode cL_law 1399 = .ok (.iadd, 1) := by decide +kernel
theorem dL_law_1400 : decode cL_law 1400 = .ok (.iaload, 1) := by decide +kernel
theorem dL_law_1401 : decode cL_law 1401 = .ok (.aload_n 3, 1) := by decide +kernel
theorem dL_law_1402 : decode cL_law 1402 = .ok (.invokestatic 180, 3) := by decide +kernel
theorem dL_law_1405 : decode cL_law 1405 = .ok (.istore 5, 2) := by decide +kernel
theorem dL_law_1407 : decode cL_law 1407 = .ok (.aload_n 2, 1) := by decide +kernel
theorem dL_law_1408 : decode cL_law 1408 = .ok (.aload_n 0, 1) := by decide +kernel
theorem dL_law_1409 : decode cL_law 1409 = .ok (.iload 4, 2) := by decide +kernel
theorem dL_law_1411 : decode cL_law 1411 = .ok (.iconst 1, 1) := by decide +kernel
theorem dL_law_1412 : decode cL_law 1412 = .ok (.iadd, 1) := by decide +kernel
theorem dL_law_1413 : decode cL_law 1413 = .ok (.iaload, 1) := by decide +kernel
theorem dL_law_1414 : decode cL_law 1414 = .ok (.invokevirtual 182, 3) := by decide +kernel
theorem dL_law_1417 : decode cL_law 1417 = .ok (.istore 6, 2) := by decide +kernel
theorem dL_law_1419 : decode cL_law 1419 = .ok (.aload_n 2, 1) := by decide +kernel
theorem dL_law_1420 : decode cL_law 1420 = .ok (.invokevirtual 115, 3) := by decide +kernel
theorem dL_law_1423 : decode cL_law 1423 = .ok (.iload 5, 2) := by decide +kernel
theorem dL_law_1425 : decode cL_law 1425 = .ok (.if_icmp .eq 5, 3) := by decide +kernel
theorem dL_law_1428 : decode cL_law 1428 = .ok (.iconst 0, 1) := by decide +kernel
theorem dL_law_1429 : decode cL_law 1429 = .ok (.ireturn, 1) := by decide +kernel
theorem dL_law_1430 : decode cL_law 1430 = .ok (.iload 5, 2) := by decide +kernel
theorem dL_law_1432 : decode cL_law 1432 = .ok (.ifCond .ne 15, 3) := by decide +kernel
theorem dL_law_1435 : decode cL_law 1435 = .ok (.aload_n 3, 1) := by decide +kernel
theorem dL_law_1436 : decode cL_law 1436 = .ok (.iconst 0, 1) := by decide +kernel
theorem dL_law_1437 : decode cL_law 1437 = .ok (.laload, 1) := by decide +kernel
theorem dL_law_1438 : decode cL_law 1438 = .ok (.iload 6, 2) := by decide +kernel
theorem dL_law_1440 : decode cL_law 1440 = .ok (.i2l, 1) := by decide +kernel
theorem dL_law_1441 : decode cL_law 1441 = .ok (.lcmp, 1) := by decide +kernel
theorem dL_law_1442 : decode cL_law 1442 = .ok (.ifCond .eq 5, 3) := by decide +kernel
theorem dL_law_1445 : decode cL_law 1445 = .ok (.iconst 0, 1) := by decide +kernel
theorem dL_law_1446 : decode cL_law 1446 = .ok (.ireturn, 1) := by decide +kernel
theorem dL_law_1447 : decode cL_law 1447 = .ok (.goto 590, 3) := by decide +kernel
theorem dL_law_1450 : decode cL_law 1450 = .ok (.aload_n 1, 1) := by decide +kernel
theorem dL_law_1451 : decode cL_law 1451 = .ok (.aload_n 0, 1) := by decide +kernel
theorem dL_law_1452 : decode cL_law 1452 = .ok (.iload 4, 2) := by decide +kernel
theorem dL_law_1454 : decode cL_law 1454 = .ok (.iconst 1, 1) := by decide +kernel
theorem dL_law_1455 : decode cL_law 1455 = .ok (.iadd, 1) := by decide +kernel
theorem dL_law_1456 : decode cL_law 1456 = .ok (.iaload, 1) := by decide +kernel
theorem dL_law_1457 : decode cL_law 1457 = .ok (.aload_n 0, 1) := by decide +kernel
theorem dL_law_1458 : decode cL_law 1458 = .ok (.iload 4, 2) := by decide +kernel
theorem dL_law_1460 : decode cL_law 1460 = .ok (.iconst 2, 1) := by decide +kernel
theorem dL_law_1461 : decode cL_law 1461 = .ok (.iadd, 1) := by decide +kernel
theorem dL_law_1462 : decode cL_law 1462 = .ok (.iaload, 1) := by decide +kernel
theorem dL_law_1463 : decode cL_law 1463 = .ok (.aload_n 0, 1) := by decide +kernel
theorem dL_law_1464 : decode cL_law 1464 = .ok (.iload 4, 2) := by decide +kernel
theorem dL_law_1466 : decode cL_law 1466 = .ok (.iconst 3, 1) := by decide +kernel
theorem dL_law_1467 : decode cL_law 1467 = .ok (.iadd, 1) := by decide +kernel
theorem dL_law_1468 : decode cL_law 1468 = .ok (.iaload, 1) := by decide +kernel
theorem dL_law_1469 : decode cL_law 1469 = .ok (.aload_n 3, 1) := by decide +kernel
theorem dL_law_1470 : decode cL_law 1470 = .ok (.invokestatic 183, 3) := by decide +kernel
theorem dL_law_1473 : decode cL_law 1473 = .ok (.istore 5, 2) := by decide +kernel
theorem dL_law_1475 : decode cL_law 1475 = .ok (.aload_n 2, 1) := by decide +kernel
theorem dL_law_1476 : decode cL_law 1476 = .ok (.aload_n 0, 1) := by decide +kernel
theorem dL_law_1477 : decode cL_law 1477 = .ok (.iload 4, 2) := by decide +kernel
theorem dL_law_1479 : decode cL_law 1479 = .ok (.iconst 1, 1) := by decide +kernel
theorem dL_law_1480 : decode cL_law 1480 = .ok (.iadd, 1) := by decide +kernel
theorem dL_law_1481 : decode cL_law 1481 = .ok (.iaload, 1) := by decide +kernel
theorem dL_law_1482 : decode cL_law 1482 = .ok (.aload_n 0, 1) := by decide +kernel
theorem dL_law_1483 : decode cL_law 1483 = .ok (.iload 4, 2) := by decide +kernel
theorem dL_law_1485 : decode cL_law 1485 = .ok (.iconst 2, 1) := by decide +kernel
theorem dL_law_1486 : decode cL_law 1486 = .ok (.iadd, 1) := by decide +kernel
theorem dL_law_1487 : decode cL_law 1487 = .ok (.iaload, 1) := by decide +kernel
theorem dL_law_1488 : decode cL_law 1488 = .ok (.aload_n 0, 1) := by decide +kernel
theorem dL_law_1489 : decode cL_law 1489 = .ok (.iload 4, 2) := by decide +kernel
theorem dL_law_1491 : decode cL_law 1491 = .ok (.iconst 3, 1) := by decide +kernel
theorem dL_law_1492 : decode cL_law 1492 = .ok (.iadd, 1) := by decide +kernel
theorem dL_law_1493 : decode cL_law 1493 = .ok (.iaload, 1) := by decide +kernel
theorem dL_law_1494 : decode cL_law 1494 = .ok (.invokevirtual 185, 3) := by decide +kernel
theorem dL_law_1497 : decode cL_law 1497 = .ok (.istore 6, 2) := by decide +kernel
theorem dL_law_1499 : decode cL_law 1499 = .ok (.aload_n 2, 1) := by decide +kernel
theorem dL_law_1500 : decode cL_law 1500 = .ok (.invokevirtual 115, 3) := by decide +kernel
theorem dL_law_1503 : decode cL_law 1503 = .ok (.iload 5, 2) := by decide +kernel
theorem dL_law_1505 : decode cL_law 1505 = .ok (.if_icmp .eq 5, 3) := by decide +kernel
theorem dL_law_1508 : decode cL_law 1508 = .ok (.iconst 0, 1) := by decide +kernel
theorem dL_law_1509 : decode cL_law 1509 = .ok (.ireturn, 1) := by decide +kernel
theorem dL_law_1510 : decode cL_law 1510 = .ok (.iload 5, 2) := by decide +kernel
theorem dL_law_1512 : decode cL_law 1512 = .ok (.ifCond .ne 15, 3) := by decide +kernel
theorem dL_law_1515 : decode cL_law 1515 = .ok (.aload_n 3, 1) := by decide +kernel
theorem dL_law_1516 : decode cL_law 1516 = .ok (.iconst 0, 1) := by decide +kernel
theorem dL_law_1517 : decode cL_law 1517 = .ok (.laload, 1) := by decide +kernel
theorem dL_law_1518 : decode cL_law 1518 = .ok (.iload 6, 2) := by decide +kernel
theorem dL_law_1520 : decode cL_law 1520 = .ok (.i2l, 1) := by decide +kernel
theorem dL_law_1521 : decode cL_law 1521 = .ok (.lcmp, 1) := by decide +kernel
theorem dL_law_1522 : decode cL_law 1522 = .ok (.ifCond .eq 5, 3) := by decide +kernel
theorem dL_law_1525 : decode cL_law 1525 = .ok (.iconst 0, 1) := by decide +kernel
theorem dL_law_1526 : decode cL_law 1526 = .ok (.ireturn, 1) := by decide +kernel
theorem dL_law_1527 : decode cL_law 1527 = .ok (.goto 510, 3) := by decide +kernel
theorem dL_law_1530 : decode cL_law 1530 = .ok (.aload_n 1, 1) := by decide +kernel
theorem dL_law_1531 : decode cL_law 1531 = .ok (.invokevirtual 186, 3) := by decide +kernel
theorem dL_law_1534 : decode cL_law 1534 = .ok (.aload_n 2, 1) := by decide +kernel
theorem dL_law_1535 : decode cL_law 1535 = .ok (.invokevirtual 189, 3) := by decide +kernel
theorem dL_law_1538 : decode cL_law 1538 = .ok (.if_icmp .eq 499, 3) := by decide +kernel
theorem dL_law_1541 : decode cL_law 1541 = .ok (.iconst 0, 1) := by decide +kernel
theorem dL_law_1542 : decode cL_law 1542 = .ok (.ireturn, 1) := by decide +kernel
theorem dL_law_1543 : decode cL_law 1543 = .ok (.aload_n 1, 1) := by decide +kernel
theorem dL_law_1544 : decode cL_law 1544 = .ok (.aload_n 0, 1) := by decide +kernel
theorem dL_law_1545 : decode cL_law 1545 = .ok (.iload 4, 2) := by decide +kernel
theorem dL_law_1547 : decode cL_law 1547 = .ok (.iconst 1, 1) := by decide +kernel
theorem dL_law_1548 : decode cL_law 1548 = .ok (.iadd, 1) := by decide +kernel
theorem dL_law_1549 : decode cL_law 1549 = .ok (.iaload, 1) := by decide +kernel
theorem dL_law_1550 : decode cL_law 1550 = .ok (.aload_n 3, 1) := by decide +kernel
theorem dL_law_1551 : decode cL_law 1551 = .ok (.invokestatic 190, 3) := by decide +kernel
theorem dL_law_1554 : decode cL_law 1554 = .ok (.istore 5, 2) := by decide +kernel
theorem dL_law_1556 : decode cL_law 1556 = .ok (.aload_n 2, 1) := by decide +kernel
theorem dL_law_1557 : decode cL_law 1557 = .ok (.aload_n 0, 1) := by decide +kernel
theorem dL_law_1558 : decode cL_law 1558 = .ok (.iload 4, 2) := by decide +kernel
theorem dL_law_1560 : decode cL_law 1560 = .ok (.iconst 1, 1) := by decide +kernel
theorem dL_law_1561 : decode cL_law 1561 = .ok (.iadd, 1) := by decide +kernel
theorem dL_law_1562 : decode cL_law 1562 = .ok (.iaload, 1) := by decide +kernel
theorem dL_law_1563 : decode cL_law 1563 = .ok (.invokevirtual 192, 3) := by decide +kernel
theorem dL_law_1566 : decode cL_law 1566 = .ok (.istore 6, 2) := by decide +kernel
theorem dL_law_1568 : decode cL_law 1568 = .ok (.aload_n 2, 1) := by decide +kernel
theorem dL_law_1569 : decode cL_law 1569 = .ok (.invokevirtual 115, 3) := by decide +kernel
theorem dL_law_1572 : decode cL_law 1572 = .ok (.iload 5, 2) := by decide +kernel
theorem dL_law_1574 : decode cL_law 1574 = .ok (.if_icmp .eq 5, 3) := by decide +kernel
theorem dL_law_1577 : decode cL_law 1577 = .ok (.iconst 0, 1) := by decide +kernel
theorem dL_law_1578 : decode cL_law 1578 = .ok (.ireturn, 1) := by decide +kernel
theorem dL_law_1579 : decode cL_law 1579 = .ok (.iload 5, 2) := by decide +kernel
theorem dL_law_1581 : decode cL_law 1581 = .ok (.ifCond .ne 15, 3) := by decide +kernel
theorem dL_law_1584 : decode cL_law 1584 = .ok (.aload_n 3, 1) := by decide +kernel
theorem dL_law_1585 : decode cL_law 1585 = .ok (.iconst 0, 1) := by decide +kernel
theorem dL_law_1586 : decode cL_law 1586 = .ok (.laload, 1) := by decide +kernel
theorem dL_law_1587 : decode cL_law 1587 = .ok (.iload 6, 2) := by decide +kernel
theorem dL_law_1589 : decode cL_law 1589 = .ok (.i2l, 1) := by decide +kernel
theorem dL_law_1590 : decode cL_law 1590 = .ok (.lcmp, 1) := by decide +kernel
theorem dL_law_1591 : decode cL_law 1591 = .ok (.ifCond .eq 5, 3) := by decide +kernel
theorem dL_law_1594 : decode cL_law 1594 = .ok (.iconst 0, 1) := by decide +kernel
theorem dL_law_1595 : decode cL_law 1595 = .ok (.ireturn, 1) := by decide +kernel
theorem dL_law_1596 : decode cL_law 1596 = .ok (.goto 441, 3) := by decide +kernel
theorem dL_law_1599 : decode cL_law 1599 = .ok (.aload_n 1, 1) := by decide +kernel
theorem dL_law_1600 : decode cL_law 1600 = .ok (.aload_n 0, 1) := by decide +kernel
theorem dL_law_1601 : decode cL_law 1601 = .ok (.iload 4, 2) := by decide +kernel
theorem dL_law_1603 : decode cL_law 1603 = .ok (.iconst 1, 1) := by decide +kernel
theorem dL_law_1604 : decode cL_law 1604 = .ok (.iadd, 1) := by decide +kernel
theorem dL_law_1605 : decode cL_law 1605 = .ok (.iaload, 1) := by decide +kernel
theorem dL_law_1606 : decode cL_law 1606 = .ok (.aload_n 0, 1) := by decide +kernel
theorem dL_law_1607 : decode cL_law 1607 = .ok (.iload 4, 2) := by decide +kernel
theorem dL_law_1609 : decode cL_law 1609 = .ok (.iconst 2, 1) := by decide +kernel
theorem dL_law_1610 : decode cL_law 1610 = .ok (.iadd, 1) := by decide +kernel
theorem dL_law_1611 : decode cL_law 1611 = .ok (.iaload, 1) := by decide +kernel
theorem dL_law_1612 : decode cL_law 1612 = .ok (.aload_n 3, 1) := by decide +kernel
theorem dL_law_1613 : decode cL_law 1613 = .ok (.invokestatic 193, 3) := by decide +kernel
theorem dL_law_1616 : decode cL_law 1616 = .ok (.istore 5, 2) := by decide +kernel
theorem dL_law_1618 : decode cL_law 1618 = .ok (.aload_n 2, 1) := by decide +kernel
theorem dL_law_1619 : decode cL_law 1619 = .ok (.aload_n 0, 1) := by decide +kernel
theorem dL_law_1620 : decode cL_law 1620 = .ok (.iload 4, 2) := by decide +kernel
theorem dL_law_1622 : decode cL_law 1622 = .ok (.iconst 1, 1) := by decide +kernel
theorem dL_law_1623 : decode cL_law 1623 = .ok (.iadd, 1) := by decide +kernel
theorem dL_law_1624 : decode cL_law 1624 = .ok (.iaload, 1) := by decide +kernel
theorem dL_law_1625 : decode cL_law 1625 = .ok (.aload_n 0, 1) := by decide +kernel
theorem dL_law_1626 : decode cL_law 1626 = .ok (.iload 4, 2) := by decide +kernel
theorem dL_law_1628 : decode cL_law 1628 = .ok (.iconst 2, 1) := by decide +kernel
theorem dL_law_1629 : decode cL_law 1629 = .ok (.iadd, 1) := by decide +kernel
theorem dL_law_1630 : decode cL_law 1630 = .ok (.iaload, 1) := by decide +kernel
theorem dL_law_1631 : decode cL_law 1631 = .ok (.invokevirtual 195, 3) := by decide +kernel
theorem dL_law_1634 : decode cL_law 1634 = .ok (.istore 6, 2) := by decide +kernel
theorem dL_law_1636 : decode cL_law 1636 = .ok (.aload_n 2, 1) := by decide +kernel
theorem dL_law_1637 : decode cL_law 1637 = .ok (.invokevirtual 115, 3) := by decide +kernel
theorem dL_law_1640 : decode cL_law 1640 = .ok (.iload 5, 2) := by decide +kernel
theorem dL_law_1642 : decode cL_law 1642 = .ok (.if_icmp .eq 5, 3) := by decide +kernel
theorem dL_law_1645 : decode cL_law 1645 = .ok (.iconst 0, 1) := by decide +kernel
theorem dL_law_1646 : decode cL_law 1646 = .ok (.ireturn, 1) := by decide +kernel
theorem dL_law_1647 : decode cL_law 1647 = .ok (.iload 5, 2) := by decide +kernel
theorem dL_law_1649 : decode cL_law 1649 = .ok (.ifCond .ne 15, 3) := by decide +kernel
theorem dL_law_1652 : decode cL_law 1652 = .ok (.aload_n 3, 1) := by decide +kernel
theorem dL_law_1653 : decode cL_law 1653 = .ok (.iconst 0, 1) := by decide +kernel
theorem dL_law_1654 : decode cL_law 1654 = .ok (.laload, 1) := by decide +kernel
theorem dL_law_1655 : decode cL_law 1655 = .ok (.iload 6, 2) := by decide +kernel
theorem dL_law_1657 : decode cL_law 1657 = .ok (.i2l, 1) := by decide +kernel
theorem dL_law_1658 : decode cL_law 1658 = .ok (.lcmp, 1) := by decide +kernel
theorem dL_law_1659 : decode cL_law 1659 = .ok (.ifCond .eq 5, 3) := by decide +kernel
theorem dL_law_1662 : decode cL_law 1662 = .ok (.iconst 0, 1) := by decide +kernel
theorem dL_law_1663 : decode cL_law 1663 = .ok (.ireturn, 1) := by decide +kernel
theorem dL_law_1664 : decode cL_law 1664 = .ok (.goto 373, 3) := by decide +kernel
theorem dL_law_1667 : decode cL_law 1667 = .ok (.aload_n 1, 1) := by decide +kernel
theorem dL_law_1668 : decode cL_law 1668 = .ok (.aload_n 0, 1) := by decide +kernel
theorem dL_law_1669 : decode cL_law 1669 = .ok (.iload 4, 2) := by decide +kernel
theorem dL_law_1671 : decode cL_law 1671 = .ok (.iconst 1, 1) := by decide +kernel
theorem dL_law_1672 : decode cL_law 1672 = .ok (.iadd, 1) := by decide +kernel
theorem dL_law_1673 : decode cL_law 1673 = .ok (.iaload, 1) := by decide +kernel
theorem dL_law_1674 : decode cL_law 1674 = .ok (.aload_n 0, 1) := by decide +kernel
theorem dL_law_1675 : decode cL_law 1675 = .ok (.iload 4, 2) := by decide +kernel
theorem dL_law_1677 : decode cL_law 1677 = .ok (.iconst 2, 1) := by decide +kernel
theorem dL_law_1678 : decode cL_law 1678 = .ok (.iadd, 1) := by decide +kernel
theorem dL_law_1679 : decode cL_law 1679 = .ok (.iaload, 1) := by decide +kernel
theorem dL_law_1680 : decode cL_law 1680 = .ok (.aload_n 0, 1) := by decide +kernel
theorem dL_law_1681 : decode cL_law 1681 = .ok (.iload 4, 2) := by decide +kernel
theorem dL_law_1683 : decode cL_law 1683 = .ok (.iconst 3, 1) := by decide +kernel
theorem dL_law_1684 : decode cL_law 1684 = .ok (.iadd, 1) := by decide +kernel
theorem dL_law_1685 : decode cL_law 1685 = .ok (.iaload, 1) := by decide +kernel
theorem dL_law_1686 : decode cL_law 1686 = .ok (.aload_n 3, 1) := by decide +kernel
theorem dL_law_1687 : decode cL_law 1687 = .ok (.invokestatic 196, 3) := by decide +kernel
theorem dL_law_1690 : decode cL_law 1690 = .ok (.istore 5, 2) := by decide +kernel
theorem dL_law_1692 : decode cL_law 1692 = .ok (.aload_n 2, 1) := by decide +kernel
theorem dL_law_1693 : decode cL_law 1693 = .ok (.aload_n 0, 1) := by decide +kernel
theorem dL_law_1694 : decode cL_law 1694 = .ok (.iload 4, 2) := by decide +kernel
theorem dL_law_1696 : decode cL_law 1696 = .ok (.iconst 1, 1) := by decide +kernel
theorem dL_law_1697 : decode cL_law 1697 = .ok (.iadd, 1) := by decide +kernel
theorem dL_law_1698 : decode cL_law 1698 = .ok (.iaload, 1) := by decide +kernel
theorem dL_law_1699 : decode cL_law 1699 = .ok (.aload_n 0, 1) := by decide +kernel
theorem dL_law_1700 : decode cL_law 1700 = .ok (.iload 4, 2) := by decide +kernel
theorem dL_law_1702 : decode cL_law 1702 = .ok (.iconst 2, 1) := by decide +kernel
theorem dL_law_1703 : decode cL_law 1703 = .ok (.iadd, 1) := by decide +kernel
theorem dL_law_1704 : decode cL_law 1704 = .ok (.iaload, 1) := by decide +kernel
theorem dL_law_1705 : decode cL_law 1705 = .ok (.aload_n 0, 1) := by decide +kernel
theorem dL_law_1706 : decode cL_law 1706 = .ok (.iload 4, 2) := by decide +kernel
theorem dL_law_1708 : decode cL_law 1708 = .ok (.iconst 3, 1) := by decide +kernel
theorem dL_law_1709 : decode cL_law 1709 = .ok (.iadd, 1) := by decide +kernel
theorem dL_law_1710 : decode cL_law 1710 = .ok (.iaload, 1) := by decide +kernel
theorem dL_law_1711 : decode cL_law 1711 = .ok (.invokevirtual 198, 3) := by decide +kernel
theorem dL_law_1714 : decode cL_law 1714 = .ok (.istore 6, 2) := by decide +kernel
theorem dL_law_1716 : decode cL_law 1716 = .ok (.aload_n 2, 1) := by decide +kernel
theorem dL_law_1717 : decode cL_law 1717 = .ok (.invokevirtual 115, 3) := by decide +kernel
theorem dL_law_1720 : decode cL_law 1720 = .ok (.iload 5, 2) := by decide +kernel
theorem dL_law_1722 : decode cL_law 1722 = .ok (.if_icmp .eq 5, 3) := by decide +kernel
theorem dL_law_1725 : decode cL_law 1725 = .ok (.iconst 0, 1) := by decide +kernel
theorem dL_law_1726 : decode cL_law 1726 = .ok (.ireturn, 1) := by decide +kernel
theorem dL_law_1727 : decode cL_law 1727 = .ok (.iload 5, 2) := by decide +kernel
theorem dL_law_1729 : decode cL_law 1729 = .ok (.ifCond .ne 15, 3) := by decide +kernel
theorem dL_law_1732 : decode cL_law 1732 = .ok (.aload_n 3, 1) := by decide +kernel
theorem dL_law_1733 : decode cL_law 1733 = .ok (.iconst 0, 1) := by decide +kernel
theorem dL_law_1734 : decode cL_law 1734 = .ok (.laload, 1) := by decide +kernel
theorem dL_law_1735 : decode cL_law 1735 = .ok (.iload 6, 2) := by decide +kernel
theorem dL_law_1737 : decode cL_law 1737 = .ok (.i2l, 1) := by decide +kernel
theorem dL_law_1738 : decode cL_law 1738 = .ok (.lcmp, 1) := by decide +kernel
theorem dL_law_1739 : decode cL_law 1739 = .ok (.ifCond .eq 5, 3) := by decide +kernel
theorem dL_law_1742 : decode cL_law 1742 = .ok (.iconst 0, 1) := by decide +kernel
theorem dL_law_1743 : decode cL_law 1743 = .ok (.ireturn, 1) := by decide +kernel
theorem dL_law_1744 : decode cL_law 1744 = .ok (.goto 293, 3) := by decide +kernel
theorem dL_law_1747 : decode cL_law 1747 = .ok (.aload_n 1, 1) := by decide +kernel
theorem dL_law_1748 : decode cL_law 1748 = .ok (.aload_n 0, 1) := by decide +kernel
theorem dL_law_1749 : decode cL_law 1749 = .ok (.iload 4, 2) := by decide +kernel
theorem dL_law_1751 : decode cL_law 1751 = .ok (.iconst 1, 1) := by decide +kernel
theorem dL_law_1752 : decode cL_law 1752 = .ok (.iadd, 1) := by decide +kernel
theorem dL_law_1753 : decode cL_law 1753 = .ok (.iaload, 1) := by decide +kernel
theorem dL_law_1754 : decode cL_law 1754 = .ok (.invokevirtual 199, 3) := by decide +kernel
theorem dL_law_1757 : decode cL_law 1757 = .ok (.aload_n 2, 1) := by decide +kernel
theorem dL_law_1758 : decode cL_law 1758 = .ok (.aload_n 0, 1) := by decide +kernel
theorem dL_law_1759 : decode cL_law 1759 = .ok (.iload 4, 2) := by decide +kernel
theorem dL_law_1761 : decode cL_law 1761 = .ok (.iconst 1, 1) := by decide +kernel
theorem dL_law_1762 : decode cL_law 1762 = .ok (.iadd, 1) := by decide +kernel
theorem dL_law_1763 : decode cL_law 1763 = .ok (.iaload, 1) := by decide +kernel
theorem dL_law_1764 : decode cL_law 1764 = .ok (.invokevirtual 202, 3) := by decide +kernel
theorem dL_law_1767 : decode cL_law 1767 = .ok (.if_icmp .eq 270, 3) := by decide +kernel
theorem dL_law_1770 : decode cL_law 1770 = .ok (.iconst 0, 1) := by decide +kernel
theorem dL_law_1771 : decode cL_law 1771 = .ok (.ireturn, 1) := by decide +kernel
theorem dL_law_1772 : decode cL_law 1772 = .ok (.aload_n 1, 1) := by decide +kernel
theorem dL_law_1773 : decode cL_law 1773 = .ok (.aload_n 0, 1) := by decide +kernel
theorem dL_law_1774 : decode cL_law 1774 = .ok (.iload 4, 2) := by decide +kernel
theorem dL_law_1776 : decode cL_law 1776 = .ok (.iconst 1, 1) := by decide +kernel
theorem dL_law_1777 : decode cL_law 1777 = .ok (.iadd, 1) := by decide +kernel
theorem dL_law_1778 : decode cL_law 1778 = .ok (.iaload, 1) := by decide +kernel
theorem dL_law_1779 : decode cL_law 1779 = .ok (.aload_n 3, 1) := by decide +kernel
theorem dL_law_1780 : decode cL_law 1780 = .ok (.invokestatic 203, 3) := by decide +kernel
theorem dL_law_1783 : decode cL_law 1783 = .ok (.istore 5, 2) := by decide +kernel
theorem dL_law_1785 : decode cL_law 1785 = .ok (.aload_n 2, 1) := by decide +kernel
theorem dL_law_1786 : decode cL_law 1786 = .ok (.aload_n 0, 1) := by decide +kernel
theorem dL_law_1787 : decode cL_law 1787 = .ok (.iload 4, 2) := by decide +kernel
theorem dL_law_1789 : decode cL_law 1789 = .ok (.iconst 1, 1) := by decide +kernel
theorem dL_law_1790 : decode cL_law 1790 = .ok (.iadd, 1) := by decide +kernel
theorem dL_law_1791 : decode cL_law 1791 = .ok (.iaload, 1) := by decide +kernel
theorem dL_law_1792 : decode cL_law 1792 = .ok (.invokevirtual 205, 3) := by decide +kernel
theorem dL_law_1795 : decode cL_law 1795 = .ok (.istore 6, 2) := by decide +kernel
theorem dL_law_1797 : decode cL_law 1797 = .ok (.aload_n 2, 1) := by decide +kernel
theorem dL_law_1798 : decode cL_law 1798 = .ok (.invokevirtual 115, 3) := by decide +kernel
theorem dL_law_1801 : decode cL_law 1801 = .ok (.iload 5, 2) := by decide +kernel
theorem dL_law_1803 : decode cL_law 1803 = .ok (.if_icmp .eq 5, 3) := by decide +kernel
theorem dL_law_1806 : decode cL_law 1806 = .ok (.iconst 0, 1) := by decide +kernel
theorem dL_law_1807 : decode cL_law 1807 = .ok (.ireturn, 1) := by decide +kernel
theorem dL_law_1808 : decode cL_law 1808 = .ok (.iload 5, 2) := by decide +kernel
theorem dL_law_1810 : decode cL_law 1810 = .ok (.ifCond .ne 15, 3) := by decide +kernel
theorem dL_law_1813 : decode cL_law 1813 = .ok (.aload_n 3, 1) := by decide +kernel
theorem dL_law_1814 : decode cL_law 1814 = .ok (.iconst 0, 1) := by decide +kernel
theorem dL_law_1815 : decode cL_law 1815 = .ok (.laload, 1) := by decide +kernel
theorem dL_law_1816 : decode cL_law 1816 = .ok (.iload 6, 2) := by decide +kernel
theorem dL_law_1818 : decode cL_law 1818 = .ok (.i2l, 1) := by decide +kernel
theorem dL_law_1819 : decode cL_law 1819 = .ok (.lcmp, 1) := by decide +kernel
theorem dL_law_1820 : decode cL_law 1820 = .ok (.ifCond .eq 5, 3) := by decide +kernel
theorem dL_law_1823 : decode cL_law 1823 = .ok (.iconst 0, 1) := by decide +kernel
theorem dL_law_1824 : decode cL_law 1824 = .ok (.ireturn, 1) := by decide +kernel
theorem dL_law_1825 : decode cL_law 1825 = .ok (.goto 212, 3) := by decide +kernel
theorem dL_law_1828 : decode cL_law 1828 = .ok (.aload_n 1, 1) := by decide +kernel
theorem dL_law_1829 : decode cL_law 1829 = .ok (.invokevirtual 206, 3) := by decide +kernel
theorem dL_law_1832 : decode cL_law 1832 = .ok (.aload_n 2, 1) := by decide +kernel
theorem dL_law_1833 : decode cL_law 1833 = .ok (.invokevirtual 209, 3) := by decide +kernel
theorem dL_law_1836 : decode cL_law 1836 = .ok (.if_icmp .eq 201, 3) := by decide +kernel
theorem dL_law_1839 : decode cL_law 1839 = .ok (.iconst 0, 1) := by decide +kernel
theorem dL_law_1840 : decode cL_law 1840 = .ok (.ireturn, 1) := by decide +kernel
theorem dL_law_1841 : decode cL_law 1841 = .ok (.aload_n 1, 1) := by decide +kernel
theorem dL_law_1842 : decode cL_law 1842 = .ok (.invokevirtual 210, 3) := by decide +kernel
theorem dL_law_1845 : decode cL_law 1845 = .ok (.aload_n 2, 1) := by decide +kernel
theorem dL_law_1846 : decode cL_law 1846 = .ok (.invokevirtual 213, 3) := by decide +kernel
theorem dL_law_1849 : decode cL_law 1849 = .ok (.if_icmp .eq 188, 3) := by decide +kernel
theorem dL_law_1852 : decode cL_law 1852 = .ok (.iconst 0, 1) := by decide +kernel
theorem dL_law_1853 : decode cL_law 1853 = .ok (.ireturn, 1) := by decide +kernel
theorem dL_law_1854 : decode cL_law 1854 = .ok (.aload_n 1, 1) := by decide +kernel
theorem dL_law_1855 : decode cL_law 1855 = .ok (.aload_n 3, 1) := by decide +kernel
theorem dL_law_1856 : decode cL_law 1856 = .ok (.invokestatic 214, 3) := by decide +kernel
theorem dL_law_1859 : decode cL_law 1859 = .ok (.istore 5, 2) := by decide +kernel
theorem dL_law_1861 : decode cL_law 1861 = .ok (.aload_n 2, 1) := by decide +kernel
theorem dL_law_1862 : decode cL_law 1862 = .ok (.invokevirtual 216, 3) := by decide +kernel
theorem dL_law_1865 : decode cL_law 1865 = .ok (.istore 6, 2) := by decide +kernel
theorem dL_law_1867 : decode cL_law 1867 = .ok (.aload_n 2, 1) := by decide +kernel
theorem dL_law_1868 : decode cL_law 1868 = .ok (.invokevirtual 115, 3) := by decide +kernel
theorem dL_law_1871 : decode cL_law 1871 = .ok (.iload 5, 2) := by decide +kernel
theorem dL_law_1873 : decode cL_law 1873 = .ok (.if_icmp .eq 5, 3) := by decide +kernel
theorem dL_law_1876 : decode cL_law 1876 = .ok (.iconst 0, 1) := by decide +kernel
theorem dL_law_1877 : decode cL_law 1877 = .ok (.ireturn, 1) := by decide +kernel
theorem dL_law_1878 : decode cL_law 1878 = .ok (.iload 5, 2) := by decide +kernel
theorem dL_law_1880 : decode cL_law 1880 = .ok (.ifCond .ne 15, 3) := by decide +kernel
theorem dL_law_1883 : decode cL_law 1883 = .ok (.aload_n 3, 1) := by decide +kernel
theorem dL_law_1884 : decode cL_law 1884 = .ok (.iconst 0, 1) := by decide +kernel
theorem dL_law_1885 : decode cL_law 1885 = .ok (.laload, 1) := by decide +kernel
theorem dL_law_1886 : decode cL_law 1886 = .ok (.iload 6, 2) := by decide +kernel
theorem dL_law_1888 : decode cL_law 1888 = .ok (.i2l, 1) := by decide +kernel
theorem dL_law_1889 : decode cL_law 1889 = .ok (.lcmp, 1) := by decide +kernel
theorem dL_law_1890 : decode cL_law 1890 = .ok (.ifCond .eq 5, 3) := by decide +kernel
theorem dL_law_1893 : decode cL_law 1893 = .ok (.iconst 0, 1) := by decide +kernel
theorem dL_law_1894 : decode cL_law 1894 = .ok (.ireturn, 1) := by decide +kernel
theorem dL_law_1895 : decode cL_law 1895 = .ok (.goto 142, 3) := by decide +kernel
theorem dL_law_1898 : decode cL_law 1898 = .ok (.aload_n 1, 1) := by decide +kernel
theorem dL_law_1899 : decode cL_law 1899 = .ok (.aload_n 0, 1) := by decide +kernel
theorem dL_law_1900 : decode cL_law 1900 = .ok (.iload 4, 2) := by decide +kernel
theorem dL_law_1902 : decode cL_law 1902 = .ok (.iconst 1, 1) := by decide +kernel
theorem dL_law_1903 : decode cL_law 1903 = .ok (.iadd, 1) := by decide +kernel
theorem dL_law_1904 : decode cL_law 1904 = .ok (.iaload, 1) := by decide +kernel
theorem dL_law_1905 : decode cL_law 1905 = .ok (.aload_n 3, 1) := by decide +kernel
theorem dL_law_1906 : decode cL_law 1906 = .ok (.invokestatic 217, 3) := by decide +kernel
theorem dL_law_1909 : decode cL_law 1909 = .ok (.istore 5, 2) := by decide +kernel
theorem dL_law_1911 : decode cL_law 1911 = .ok (.aload_n 2, 1) := by decide +kernel
theorem dL_law_1912 : decode cL_law 1912 = .ok (.aload_n 0, 1) := by decide +kernel
theorem dL_law_1913 : decode cL_law 1913 = .ok (.iload 4, 2) := by decide +kernel
theorem dL_law_1915 : decode cL_law 1915 = .ok (.iconst 1, 1) := by decide +kernel
theorem dL_law_1916 : decode cL_law 1916 = .ok (.iadd, 1) := by decide +kernel
theorem dL_law_1917 : decode cL_law 1917 = .ok (.iaload, 1) := by decide +kernel
theorem dL_law_1918 : decode cL_law 1918 = .ok (.invokevirtual 219, 3) := by decide +kernel
theorem dL_law_1921 : decode cL_law 1921 = .ok (.istore 6, 2) := by decide +kernel
theorem dL_law_1923 : decode cL_law 1923 = .ok (.aload_n 2, 1) := by decide +kernel
theorem dL_law_1924 : decode cL_law 1924 = .ok (.invokevirtual 115, 3) := by decide +kernel
theorem dL_law_1927 : decode cL_law 1927 = .ok (.iload 5, 2) := by decide +kernel
theorem dL_law_1929 : decode cL_law 1929 = .ok (.if_icmp .eq 5, 3) := by decide +kernel
theorem dL_law_1932 : decode cL_law 1932 = .ok (.iconst 0, 1) := by decide +kernel
theorem dL_law_1933 : decode cL_law 1933 = .ok (.ireturn, 1) := by decide +kernel
theorem dL_law_1934 : decode cL_law 1934 = .ok (.iload 5, 2) := by decide +kernel
theorem dL_law_1936 : decode cL_law 1936 = .ok (.ifCond .ne 15, 3) := by decide +kernel
theorem dL_law_1939 : decode cL_law 1939 = .ok (.aload_n 3, 1) := by decide +kernel
theorem dL_law_1940 : decode cL_law 1940 = .ok (.iconst 0, 1) := by decide +kernel
theorem dL_law_1941 : decode cL_law 1941 = .ok (.laload, 1) := by decide +kernel
theorem dL_law_1942 : decode cL_law 1942 = .ok (.iload 6, 2) := by decide +kernel
theorem dL_law_1944 : decode cL_law 1944 = .ok (.i2l, 1) := by decide +kernel
theorem dL_law_1945 : decode cL_law 1945 = .ok (.lcmp, 1) := by decide +kernel
theorem dL_law_1946 : decode cL_law 1946 = .ok (.ifCond .eq 5, 3) := by decide +kernel
theorem dL_law_1949 : decode cL_law 1949 = .ok (.iconst 0, 1) := by decide +kernel
theorem dL_law_1950 : decode cL_law 1950 = .ok (.ireturn, 1) := by decide +kernel
theorem dL_law_1951 : decode cL_law 1951 = .ok (.goto 86, 3) := by decide +kernel
theorem dL_law_1954 : decode cL_law 1954 = .ok (.aload_n 1, 1) := by decide +kernel
theorem dL_law_1955 : decode cL_law 1955 = .ok (.aload_n 0, 1) := by decide +kernel
theorem dL_law_1956 : decode cL_law 1956 = .ok (.iload 4, 2) := by decide +kernel
theorem dL_law_1958 : decode cL_law 1958 = .ok (.iconst 1, 1) := by decide +kernel
theorem dL_law_1959 : decode cL_law 1959 = .ok (.iadd, 1) := by decide +kernel
theorem dL_law_1960 : decode cL_law 1960 = .ok (.iaload, 1) := by decide +kernel
theorem dL_law_1961 : decode cL_law 1961 = .ok (.invokevirtual 220, 3) := by decide +kernel
theorem dL_law_1964 : decode cL_law 1964 = .ok (.aload_n 2, 1) := by decide +kernel
theorem dL_law_1965 : decode cL_law 1965 = .ok (.aload_n 0, 1) := by decide +kernel
theorem dL_law_1966 : decode cL_law 1966 = .ok (.iload 4, 2) := by decide +kernel
theorem dL_law_1968 : decode cL_law 1968 = .ok (.iconst 1, 1) := by decide +kernel
theorem dL_law_1969 : decode cL_law 1969 = .ok (.iadd, 1) := by decide +kernel
theorem dL_law_1970 : decode cL_law 1970 = .ok (.iaload, 1) := by decide +kernel
theorem dL_law_1971 : decode cL_law 1971 = .ok (.invokevirtual 223, 3) := by decide +kernel
theorem dL_law_1974 : decode cL_law 1974 = .ok (.if_icmp .eq 63, 3) := by decide +kernel
theorem dL_law_1977 : decode cL_law 1977 = .ok (.iconst 0, 1) := by decide +kernel
theorem dL_law_1978 : decode cL_law 1978 = .ok (.ireturn, 1) := by decide +kernel
theorem dL_law_1979 : decode cL_law 1979 = .ok (.aload_n 1, 1) := by decide +kernel
theorem dL_law_1980 : decode cL_law 1980 = .ok (.aload_n 3, 1) := by decide +kernel
theorem dL_law_1981 : decode cL_law 1981 = .ok (.invokestatic 224, 3) := by decide +kernel
theorem dL_law_1984 : decode cL_law 1984 = .ok (.istore 5, 2) := by decide +kernel
theorem dL_law_1986 : decode cL_law 1986 = .ok (.aload_n 2, 1) := by decide +kernel
theorem dL_law_1987 : decode cL_law 1987 = .ok (.invokevirtual 226, 3) := by decide +kernel
theorem dL_law_1990 : decode cL_law 1990 = .ok (.istore 6, 2) := by decide +kernel
theorem dL_law_1992 : decode cL_law 1992 = .ok (.aload_n 2, 1) := by decide +kernel
theorem dL_law_1993 : decode cL_law 1993 = .ok (.invokevirtual 115, 3) := by decide +kernel
theorem dL_law_1996 : decode cL_law 1996 = .ok (.iload 5, 2) := by decide +kernel
theorem dL_law_1998 : decode cL_law 1998 = .ok (.if_icmp .eq 5, 3) := by decide +kernel
theorem dL_law_2001 : decode cL_law 2001 = .ok (.iconst 0, 1) := by decide +kernel
theorem dL_law_2002 : decode cL_law 2002 = .ok (.ireturn, 1) := by decide +kernel
theorem dL_law_2003 : decode cL_law 2003 = .ok (.iload 5, 2) := by decide +kernel
theorem dL_law_2005 : decode cL_law 2005 = .ok (.ifCond .ne 15, 3) := by decide +kernel
theorem dL_law_2008 : decode cL_law 2008 = .ok (.aload_n 3, 1) := by decide +kernel
theorem dL_law_2009 : decode cL_law 2009 = .ok (.iconst 0, 1) := by decide +kernel
theorem dL_law_2010 : decode cL_law 2010 = .ok (.laload, 1) := by decide +kernel
theorem dL_law_2011 : decode cL_law 2011 = .ok (.iload 6, 2) := by decide +kernel
theorem dL_law_2013 : decode cL_law 2013 = .ok (.i2l, 1) := by decide +kernel
theorem dL_law_2014 : decode cL_law 2014 = .ok (.lcmp, 1) := by decide +kernel
theorem dL_law_2015 : decode cL_law 2015 = .ok (.ifCond .eq 5, 3) := by decide +kernel
theorem dL_law_2018 : decode cL_law 2018 = .ok (.iconst 0, 1) := by decide +kernel
theorem dL_law_2019 : decode cL_law 2019 = .ok (.ireturn, 1) := by decide +kernel
theorem dL_law_2020 : decode cL_law 2020 = .ok (.goto 17, 3) := by decide +kernel
theorem dL_law_2023 : decode cL_law 2023 = .ok (.aload_n 1, 1) := by decide +kernel
theorem dL_law_2024 : decode cL_law 2024 = .ok (.invokevirtual 227, 3) := by decide +kernel
theorem dL_law_2027 : decode cL_law 2027 = .ok (.aload_n 2, 1) := by decide +kernel
theorem dL_law_2028 : decode cL_law 2028 = .ok (.invokevirtual 231, 3) := by decide +kernel
theorem dL_law_2031 : decode cL_law 2031 = .ok (.lcmp, 1) := by decide +kernel
theorem dL_law_2032 : decode cL_law 2032 = .ok (.ifCond .eq 5, 3) := by decide +kernel
theorem dL_law_2035 : decode cL_law 2035 = .ok (.iconst 0, 1) := by decide +kernel
theorem dL_law_2036 : decode cL_law 2036 = .ok (.ireturn, 1) := by decide +kernel
theorem dL_law_2037 : decode cL_law 2037 = .ok (.iinc 4 4, 3) := by decide +kernel
theorem dL_law_2040 : decode cL_law 2040 = .ok (.goto (-2017), 3) := by decide +kernel
theorem dL_law_2043 : decode cL_law 2043 = .ok (.iconst 1, 1) := by decide +kernel
theorem dL_law_2044 : decode cL_law 2044 = .ok (.ireturn, 1) := by decide +kernel
