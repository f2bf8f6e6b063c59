theorem d_L_order_0 : decode b_L_order 0 = .ok (.aload_n 3, 1) := by decide +kernel
theorem d_L_order_1 : decode b_L_order 1 = .ok (.iconst 0, 1) := by decide +kernel
theorem d_L_order_2 : decode b_L_order 2 = .ok (.aload_n 0, 1) := by decide +kernel
theorem d_L_order_3 : decode b_L_order 3 = .ok (.iload_n 1, 1) := by decide +kernel
theorem d_L_order_4 : decode b_L_order 4 = .ok (.iload_n 2, 1) := by decide +kernel
theorem d_L_order_5 : decode b_L_order 5 = .ok (.invokevirtual 7, 3) := by decide +kernel
theorem d_L_order_8 : decode b_L_order 8 = .ok (.i2l, 1) := by decide +kernel
theorem d_L_order_9 : decode b_L_order 9 = .ok (.lastore, 1) := by decide +kernel
theorem d_L_order_10 : decode b_L_order 10 = .ok (.goto 11, 3) := by decide +kernel
theorem d_L_order_13 : decode b_L_order 13 = .ok (.astore 4, 2) := by decide +kernel
theorem d_L_order_15 : decode b_L_order 15 = .ok (.iconst 1, 1) := by decide +kernel
theorem d_L_order_16 : decode b_L_order 16 = .ok (.ireturn, 1) := by decide +kernel
theorem d_L_order_17 : decode b_L_order 17 = .ok (.astore 4, 2) := by decide +kernel
theorem d_L_order_19 : decode b_L_order 19 = .ok (.iconst 2, 1) := by decide +kernel
theorem d_L_order_20 : decode b_L_order 20 = .ok (.ireturn, 1) := by decide +kernel
theorem d_L_order_21 : decode b_L_order 21 = .ok (.iconst 0, 1) := by decide +kernel
theorem d_L_order_22 : decode b_L_order 22 = .ok (.ireturn, 1) := by decide +kernel
theorem d_L_heat_0 : decode b_L_heat 0 = .ok (.aload 6, 2) := by decide +kernel
theorem d_L_heat_2 : decode b_L_heat 2 = .ok (.iconst 0, 1) := by decide +kernel
theorem d_L_heat_3 : decode b_L_heat 3 = .ok (.aload_n 0, 1) := by decide +kernel
theorem d_L_heat_4 : decode b_L_heat 4 = .ok (.iload_n 1, 1) := by decide +kernel
theorem d_L_heat_5 : decode b_L_heat 5 = .ok (.iload_n 2, 1) := by decide +kernel
theorem d_L_heat_6 : decode b_L_heat 6 = .ok (.iload_n 3, 1) := by decide +kernel
theorem d_L_heat_7 : decode b_L_heat 7 = .ok (.iload 4, 2) := by decide +kernel
theorem d_L_heat_9 : decode b_L_heat 9 = .ok (.iload 5, 2) := by decide +kernel
theorem d_L_heat_11 : decode b_L_heat 11 = .ok (.invokevirtual 17, 3) := by decide +kernel
theorem d_L_heat_14 : decode b_L_heat 14 = .ok (.i2l, 1) := by decide +kernel
theorem d_L_heat_15 : decode b_L_heat 15 = .ok (.lastore, 1) := by decide +kernel
theorem d_L_heat_16 : decode b_L_heat 16 = .ok (.goto 19, 3) := by decide +kernel
theorem d_L_heat_19 : decode b_L_heat 19 = .ok (.astore 7, 2) := by decide +kernel
theorem d_L_heat_21 : decode b_L_heat 21 = .ok (.iconst 1, 1) := by decide +kernel
theorem d_L_heat_22 : decode b_L_heat 22 = .ok (.ireturn, 1) := by decide +kernel
theorem d_L_heat_23 : decode b_L_heat 23 = .ok (.astore 7, 2) := by decide +kernel
theorem d_L_heat_25 : decode b_L_heat 25 = .ok (.iconst 2, 1) := by decide +kernel
theorem d_L_heat_26 : decode b_L_heat 26 = .ok (.ireturn, 1) := by decide +kernel
theorem d_L_heat_27 : decode b_L_heat 27 = .ok (.astore 7, 2) := by decide +kernel
theorem d_L_heat_29 : decode b_L_heat 29 = .ok (.iconst 3, 1) := by decide +kernel
theorem d_L_heat_30 : decode b_L_heat 30 = .ok (.ireturn, 1) := by decide +kernel
theorem d_L_heat_31 : decode b_L_heat 31 = .ok (.astore 7, 2) := by decide +kernel
theorem d_L_heat_33 : decode b_L_heat 33 = .ok (.iconst 4, 1) := by decide +kernel
theorem d_L_heat_34 : decode b_L_heat 34 = .ok (.ireturn, 1) := by decide +kernel
theorem d_L_heat_35 : decode b_L_heat 35 = .ok (.iconst 0, 1) := by decide +kernel
theorem d_L_heat_36 : decode b_L_heat 36 = .ok (.ireturn, 1) := by decide +kernel
theorem d_L_stop_0 : decode b_L_stop 0 = .ok (.aload 4, 2) := by decide +kernel
theorem d_L_stop_2 : decode b_L_stop 2 = .ok (.iconst 0, 1) := by decide +kernel
theorem d_L_stop_3 : decode b_L_stop 3 = .ok (.aload_n 0, 1) := by decide +kernel
theorem d_L_stop_4 : decode b_L_stop 4 = .ok (.iload_n 1, 1) := by decide +kernel
theorem d_L_stop_5 : decode b_L_stop 5 = .ok (.iload_n 2, 1) := by decide +kernel
theorem d_L_stop_6 : decode b_L_stop 6 = .ok (.iload_n 3, 1) := by decide +kernel
theorem d_L_stop_7 : decode b_L_stop 7 = .ok (.invokevirtual 25, 3) := by decide +kernel
theorem d_L_stop_10 : decode b_L_stop 10 = .ok (.i2l, 1) := by decide +kernel
theorem d_L_stop_11 : decode b_L_stop 11 = .ok (.lastore, 1) := by decide +kernel
theorem d_L_stop_12 : decode b_L_stop 12 = .ok (.goto 15, 3) := by decide +kernel
theorem d_L_stop_15 : decode b_L_stop 15 = .ok (.astore 5, 2) := by decide +kernel
theorem d_L_stop_17 : decode b_L_stop 17 = .ok (.iconst 1, 1) := by decide +kernel
theorem d_L_stop_18 : decode b_L_stop 18 = .ok (.ireturn, 1) := by decide +kernel
theorem d_L_stop_19 : decode b_L_stop 19 = .ok (.astore 5, 2) := by decide +kernel
theorem d_L_stop_21 : decode b_L_stop 21 = .ok (.iconst 2, 1) := by decide +kernel
theorem d_L_stop_22 : decode b_L_stop 22 = .ok (.ireturn, 1) := by decide +kernel
theorem d_L_stop_23 : decode b_L_stop 23 = .ok (.astore 5, 2) := by decide +kernel
theorem d_L_stop_25 : decode b_L_stop 25 = .ok (.iconst 3, 1) := by decide +kernel
theorem d_L_stop_26 : decode b_L_stop 26 = .ok (.ireturn, 1) := by decide +kernel
theorem d_L_stop_27 : decode b_L_stop 27 = .ok (.iconst 0, 1) := by decide +kernel
theorem d_L_stop_28 : decode b_L_stop 28 = .ok (.ireturn, 1) := by decide +kernel
theorem d_L_clock_0 : decode b_L_clock 0 = .ok (.aload_n 0, 1) := by decide +kernel
theorem d_L_clock_1 : decode b_L_clock 1 = .ok (.iload_n 1, 1) := by decide +kernel
theorem d_L_clock_2 : decode b_L_clock 2 = .ok (.iload_n 2, 1) := by decide +kernel
theorem d_L_clock_3 : decode b_L_clock 3 = .ok (.invokevirtual 29, 3) := by decide +kernel
theorem d_L_clock_6 : decode b_L_clock 6 = .ok (.goto 6, 3) := by decide +kernel
theorem d_L_clock_9 : decode b_L_clock 9 = .ok (.astore_n 3, 1) := by decide +kernel
theorem d_L_clock_10 : decode b_L_clock 10 = .ok (.iconst 1, 1) := by decide +kernel
theorem d_L_clock_11 : decode b_L_clock 11 = .ok (.ireturn, 1) := by decide +kernel
theorem d_L_clock_12 : decode b_L_clock 12 = .ok (.iconst 0, 1) := by decide +kernel
theorem d_L_clock_13 : decode b_L_clock 13 = .ok (.ireturn, 1) := by decide +kernel
theorem d_L_place_0 : decode b_L_place 0 = .ok (.aload_n 0, 1) := by decide +kernel
theorem d_L_place_1 : decode b_L_place 1 = .ok (.iload_n 1, 1) := by decide +kernel
theorem d_L_place_2 : decode b_L_place 2 = .ok (.iload_n 2, 1) := by decide +kernel
theorem d_L_place_3 : decode b_L_place 3 = .ok (.iload_n 3, 1) := by decide +kernel
theorem d_L_place_4 : decode b_L_place 4 = .ok (.invokevirtual 33, 3) := by decide +kernel
theorem d_L_place_7 : decode b_L_place 7 = .ok (.goto 19, 3) := by decide +kernel
theorem d_L_place_10 : decode b_L_place 10 = .ok (.astore 4, 2) := by decide +kernel
theorem d_L_place_12 : decode b_L_place 12 = .ok (.iconst 1, 1) := by decide +kernel
theorem d_L_place_13 : decode b_L_place 13 = .ok (.ireturn, 1) := by decide +kernel
theorem d_L_place_14 : decode b_L_place 14 = .ok (.astore 4, 2) := by decide +kernel
theorem d_L_place_16 : decode b_L_place 16 = .ok (.iconst 2, 1) := by decide +kernel
theorem d_L_place_17 : decode b_L_place 17 = .ok (.ireturn, 1) := by decide +kernel
theorem d_L_place_18 : decode b_L_place 18 = .ok (.astore 4, 2) := by decide +kernel
theorem d_L_place_20 : decode b_L_place 20 = .ok (.iconst 3, 1) := by decide +kernel
theorem d_L_place_21 : decode b_L_place 21 = .ok (.ireturn, 1) := by decide +kernel
theorem d_L_place_22 : decode b_L_place 22 = .ok (.astore 4, 2) := by decide +kernel
theorem d_L_place_24 : decode b_L_place 24 = .ok (.iconst 4, 1) := by decide +kernel
theorem d_L_place_25 : decode b_L_place 25 = .ok (.ireturn, 1) := by decide +kernel
theorem d_L_place_26 : decode b_L_place 26 = .ok (.iconst 0, 1) := by decide +kernel
theorem d_L_place_27 : decode b_L_place 27 = .ok (.ireturn, 1) := by decide +kernel
theorem d_L_divert_0 : decode b_L_divert 0 = .ok (.aload_n 0, 1) := by decide +kernel
theorem d_L_divert_1 : decode b_L_divert 1 = .ok (.iload_n 1, 1) := by decide +kernel
theorem d_L_divert_2 : decode b_L_divert 2 = .ok (.iload_n 2, 1) := by decide +kernel
theorem d_L_divert_3 : decode b_L_divert 3 = .ok (.invokevirtual 37, 3) := by decide +kernel
theorem d_L_divert_6 : decode b_L_divert 6 = .ok (.goto 9, 3) := by decide +kernel
theorem d_L_divert_9 : decode b_L_divert 9 = .ok (.astore_n 3, 1) := by decide +kernel
theorem d_L_divert_10 : decode b_L_divert 10 = .ok (.iconst 1, 1) := by decide +kernel
theorem d_L_divert_11 : decode b_L_divert 11 = .ok (.ireturn, 1) := by decide +kernel
theorem d_L_divert_12 : decode b_L_divert 12 = .ok (.astore_n 3, 1) := by decide +kernel
theorem d_L_divert_13 : decode b_L_divert 13 = .ok (.iconst 2, 1) := by decide +kernel
theorem d_L_divert_14 : decode b_L_divert 14 = .ok (.ireturn, 1) := by decide +kernel
theorem d_L_divert_15 : decode b_L_divert 15 = .ok (.iconst 0, 1) := by decide +kernel
theorem d_L_divert_16 : decode b_L_divert 16 = .ok (.ireturn, 1) := by decide +kernel
theorem d_L_run_0 : decode b_L_run 0 = .ok (.aload_n 2, 1) := by decide +kernel
theorem d_L_run_1 : decode b_L_run 1 = .ok (.iconst 0, 1) := by decide +kernel
theorem d_L_run_2 : decode b_L_run 2 = .ok (.aload_n 0, 1) := by decide +kernel
theorem d_L_run_3 : decode b_L_run 3 = .ok (.iload_n 1, 1) := by decide +kernel
theorem d_L_run_4 : decode b_L_run 4 = .ok (.invokevirtual 40, 3) := by decide +kernel
theorem d_L_run_7 : decode b_L_run 7 = .ok (.i2l, 1) := by decide +kernel
theorem d_L_run_8 : decode b_L_run 8 = .ok (.lastore, 1) := by decide +kernel
theorem d_L_run_9 : decode b_L_run 9 = .ok (.goto 6, 3) := by decide +kernel
theorem d_L_run_12 : decode b_L_run 12 = .ok (.astore_n 3, 1) := by decide +kernel
theorem d_L_run_13 : decode b_L_run 13 = .ok (.iconst 1, 1) := by decide +kernel
theorem d_L_run_14 : decode b_L_run 14 = .ok (.ireturn, 1) := by decide +kernel
theorem d_L_run_15 : decode b_L_run 15 = .ok (.iconst 0, 1) := by decide +kernel
theorem d_L_run_16 : decode b_L_run 16 = .ok (.ireturn, 1) := by decide +kernel
theorem d_L_told_0 : decode b_L_told 0 = .ok (.aload_n 2, 1) := by decide +kernel
theorem d_L_told_1 : decode b_L_told 1 = .ok (.iconst 0, 1) := by decide +kernel
theorem d_L_told_2 : decode b_L_told 2 = .ok (.aload_n 0, 1) := by decide +kernel
theorem d_L_told_3 : decode b_L_told 3 = .ok (.iload_n 1, 1) := by decide +kernel
theorem d_L_told_4 : decode b_L_told 4 = .ok (.invokevirtual 44, 3) := by decide +kernel
theorem d_L_told_7 : decode b_L_told 7 = .ok (.i2l, 1) := by decide +kernel
theorem d_L_told_8 : decode b_L_told 8 = .ok (.lastore, 1) := by decide +kernel
theorem d_L_told_9 : decode b_L_told 9 = .ok (.goto 9, 3) := by decide +kernel
theorem d_L_told_12 : decode b_L_told 12 = .ok (.astore_n 3, 1) := by decide +kernel
theorem d_L_told_13 : decode b_L_told 13 = .ok (.iconst 1, 1) := by decide +kernel
theorem d_L_told_14 : decode b_L_told 14 = .ok (.ireturn, 1) := by decide +kernel
theorem d_L_told_15 : decode b_L_told 15 = .ok (.astore_n 3, 1) := by decide +kernel
theorem d_L_told_16 : decode b_L_told 16 = .ok (.iconst 2, 1) := by decide +kernel
theorem d_L_told_17 : decode b_L_told 17 = .ok (.ireturn, 1) := by decide +kernel
theorem d_L_told_18 : decode b_L_told 18 = .ok (.iconst 0, 1) := by decide +kernel
theorem d_L_told_19 : decode b_L_told 19 = .ok (.ireturn, 1) := by decide +kernel
theorem d_L_at_0 : decode b_L_at 0 = .ok (.aload_n 3, 1) := by decide +kernel
theorem d_L_at_1 : decode b_L_at 1 = .ok (.iconst 0, 1) := by decide +kernel
theorem d_L_at_2 : decode b_L_at 2 = .ok (.aload_n 0, 1) := by decide +kernel
theorem d_L_at_3 : decode b_L_at 3 = .ok (.iload_n 1, 1) := by decide +kernel
theorem d_L_at_4 : decode b_L_at 4 = .ok (.iload_n 2, 1) := by decide +kernel
theorem d_L_at_5 : decode b_L_at 5 = .ok (.invokevirtual 47, 3) := by decide +kernel
theorem d_L_at_8 : decode b_L_at 8 = .ok (.i2l, 1) := by decide +kernel
theorem d_L_at_9 : decode b_L_at 9 = .ok (.lastore, 1) := by decide +kernel
theorem d_L_at_10 : decode b_L_at 10 = .ok (.goto 7, 3) := by decide +kernel
theorem d_L_at_13 : decode b_L_at 13 = .ok (.astore 4, 2) := by decide +kernel
theorem d_L_at_15 : decode b_L_at 15 = .ok (.iconst 1, 1) := by decide +kernel
theorem d_L_at_16 : decode b_L_at 16 = .ok (.ireturn, 1) := by decide +kernel
theorem d_L_at_17 : decode b_L_at 17 = .ok (.iconst 0, 1) := by decide +kernel
theorem d_L_at_18 : decode b_L_at 18 = .ok (.ireturn, 1) := by decide +kernel
theorem d_L_on_0 : decode b_L_on 0 = .ok (.aload_n 3, 1) := by decide +kernel
theorem d_L_on_1 : decode b_L_on 1 = .ok (.iconst 0, 1) := by decide +kernel
theorem d_L_on_2 : decode b_L_on 2 = .ok (.aload_n 0, 1) := by decide +kernel
theorem d_L_on_3 : decode b_L_on 3 = .ok (.iload_n 1, 1) := by decide +kernel
theorem d_L_on_4 : decode b_L_on 4 = .ok (.iload_n 2, 1) := by decide +kernel
theorem d_L_on_5 : decode b_L_on 5 = .ok (.invokevirtual 50, 3) := by decide +kernel
theorem d_L_on_8 : decode b_L_on 8 = .ok (.i2l, 1) := by decide +kernel
theorem d_L_on_9 : decode b_L_on 9 = .ok (.lastore, 1) := by decide +kernel
theorem d_L_on_10 : decode b_L_on 10 = .ok (.goto 11, 3) := by decide +kernel
theorem d_L_on_13 : decode b_L_on 13 = .ok (.astore 4, 2) := by decide +kernel
theorem d_L_on_15 : decode b_L_on 15 = .ok (.iconst 1, 1) := by decide +kernel
theorem d_L_on_16 : decode b_L_on 16 = .ok (.ireturn, 1) := by decide +kernel
theorem d_L_on_17 : decode b_L_on 17 = .ok (.astore 4, 2) := by decide +kernel
theorem d_L_on_19 : decode b_L_on 19 = .ok (.iconst 2, 1) := by decide +kernel
theorem d_L_on_20 : decode b_L_on 20 = .ok (.ireturn, 1) := by decide +kernel
theorem d_L_on_21 : decode b_L_on 21 = .ok (.iconst 0, 1) := by decide +kernel
theorem d_L_on_22 : decode b_L_on 22 = .ok (.ireturn, 1) := by decide +kernel
theorem d_L_keep_0 : decode b_L_keep 0 = .ok (.aload_n 0, 1) := by decide +kernel
theorem d_L_keep_1 : decode b_L_keep 1 = .ok (.iload_n 1, 1) := by decide +kernel
theorem d_L_keep_2 : decode b_L_keep 2 = .ok (.invokevirtual 53, 3) := by decide +kernel
theorem d_L_keep_5 : decode b_L_keep 5 = .ok (.goto 6, 3) := by decide +kernel
theorem d_L_keep_8 : decode b_L_keep 8 = .ok (.astore_n 2, 1) := by decide +kernel
theorem d_L_keep_9 : decode b_L_keep 9 = .ok (.iconst 1, 1) := by decide +kernel
theorem d_L_keep_10 : decode b_L_keep 10 = .ok (.ireturn, 1) := by decide +kernel
theorem d_L_keep_11 : decode b_L_keep 11 = .ok (.iconst 0, 1) := by decide +kernel
theorem d_L_keep_12 : decode b_L_keep 12 = .ok (.ireturn, 1) := by decide +kernel
theorem d_L_compare_0 : decode b_L_compare 0 = .ok (.aload_n 2, 1) := by decide +kernel
theorem d_L_compare_1 : decode b_L_compare 1 = .ok (.iconst 0, 1) := by decide +kernel
theorem d_L_compare_2 : decode b_L_compare 2 = .ok (.aload_n 0, 1) := by decide +kernel
theorem d_L_compare_3 : decode b_L_compare 3 = .ok (.iload_n 1, 1) := by decide +kernel
theorem d_L_compare_4 : decode b_L_compare 4 = .ok (.invokevirtual 57, 3) := by decide +kernel
theorem d_L_compare_7 : decode b_L_compare 7 = .ok (.i2l, 1) := by decide +kernel
theorem d_L_compare_8 : decode b_L_compare 8 = .ok (.lastore, 1) := by decide +kernel
theorem d_L_compare_9 : decode b_L_compare 9 = .ok (.goto 9, 3) := by decide +kernel
theorem d_L_compare_12 : decode b_L_compare 12 = .ok (.astore_n 3, 1) := by decide +kernel
theorem d_L_compare_13 : decode b_L_compare 13 = .ok (.iconst 1, 1) := by decide +kernel
theorem d_L_compare_14 : decode b_L_compare 14 = .ok (.ireturn, 1) := by decide +kernel
theorem d_L_compare_15 : decode b_L_compare 15 = .ok (.astore_n 3, 1) := by decide +kernel
theorem d_L_compare_16 : decode b_L_compare 16 = .ok (.iconst 2, 1) := by decide +kernel
theorem d_L_compare_17 : decode b_L_compare 17 = .ok (.ireturn, 1) := by decide +kernel
theorem d_L_compare_18 : decode b_L_compare 18 = .ok (.iconst 0, 1) := by decide +kernel
theorem d_L_compare_19 : decode b_L_compare 19 = .ok (.ireturn, 1) := by decide +kernel
theorem d_L_use_0 : decode b_L_use 0 = .ok (.aload_n 0, 1) := by decide +kernel
theorem d_L_use_1 : decode b_L_use 1 = .ok (.iload_n 1, 1) := by decide +kernel
theorem d_L_use_2 : decode b_L_use 2 = .ok (.invokevirtual 60, 3) := by decide +kernel
theorem d_L_use_5 : decode b_L_use 5 = .ok (.goto 9, 3) := by decide +kernel
theorem d_L_use_8 : decode b_L_use 8 = .ok (.astore_n 2, 1) := by decide +kernel
theorem d_L_use_9 : decode b_L_use 9 = .ok (.iconst 1, 1) := by decide +kernel
theorem d_L_use_10 : decode b_L_use 10 = .ok (.ireturn, 1) := by decide +kernel
theorem d_L_use_11 : decode b_L_use 11 = .ok (.astore_n 2, 1) := by decide +kernel
theorem d_L_use_12 : decode b_L_use 12 = .ok (.iconst 2, 1) := by decide +kernel
theorem d_L_use_13 : decode b_L_use 13 = .ok (.ireturn, 1) := by decide +kernel
theorem d_L_use_14 : decode b_L_use 14 = .ok (.iconst 0, 1) := by decide +kernel
theorem d_L_use_15 : decode b_L_use 15 = .ok (.ireturn, 1) := by decide +kernel
theorem d_L_undo_0 : decode b_L_undo 0 = .ok (.aload_n 0, 1) := by decide +kernel
theorem d_L_undo_1 : decode b_L_undo 1 = .ok (.invokevirtual 63, 3) := by decide +kernel
theorem d_L_undo_4 : decode b_L_undo 4 = .ok (.goto 6, 3) := by decide +kernel
theorem d_L_undo_7 : decode b_L_undo 7 = .ok (.astore_n 1, 1) := by decide +kernel
theorem d_L_undo_8 : decode b_L_undo 8 = .ok (.iconst 1, 1) := by decide +kernel
theorem d_L_undo_9 : decode b_L_undo 9 = .ok (.ireturn, 1) := by decide +kernel
theorem d_L_undo_10 : decode b_L_undo 10 = .ok (.iconst 0, 1) := by decide +kernel
theorem d_L_undo_11 : decode b_L_undo 11 = .ok (.ireturn, 1) := by decide +kernel
theorem d_L_law_0 : decode b_L_law 0 = .ok (.new 8, 3) := by decide +kernel
theorem d_L_law_3 : decode b_L_law 3 = .ok (.dup, 1) := by decide +kernel
theorem d_L_law_4 : decode b_L_law 4 = .ok (.invokespecial 66, 3) := by decide +kernel
theorem d_L_law_7 : decode b_L_law 7 = .ok (.astore_n 1, 1) := by decide +kernel
theorem d_L_law_8 : decode b_L_law 8 = .ok (.new 67, 3) := by decide +kernel
theorem d_L_law_11 : decode b_L_law 11 = .ok (.dup, 1) := by decide +kernel
theorem d_L_law_12 : decode b_L_law 12 = .ok (.invokespecial 69, 3) := by decide +kernel
theorem d_L_law_15 : decode b_L_law 15 = .ok (.astore_n 2, 1) := by decide +kernel
theorem d_L_law_16 : decode b_L_law 16 = .ok (.iconst 1, 1) := by decide +kernel
theorem d_L_law_17 : decode b_L_law 17 = .ok (.newarray .long, 2) := by decide +kernel
theorem d_L_law_19 : decode b_L_law 19 = .ok (.astore_n 3, 1) := by decide +kernel
theorem d_L_law_20 : decode b_L_law 20 = .ok (.iconst 0, 1) := by decide +kernel
theorem d_L_law_21 : decode b_L_law 21 = .ok (.istore 4, 2) := by decide +kernel
theorem d_L_law_23 : decode b_L_law 23 = .ok (.iload 4, 2) := by decide +kernel
theorem d_L_law_25 : decode b_L_law 25 = .ok (.aload_n 0, 1) := by decide +kernel
theorem d_L_law_26 : decode b_L_law 26 = .ok (.arraylength, 1) := by decide +kernel
theorem d_L_law_27 : decode b_L_law 27 = .ok (.bipush 6, 2) := by decide +kernel
theorem d_L_law_29 : decode b_L_law 29 = .ok (.isub, 1) := by decide +kernel
theorem d_L_law_30 : decode b_L_law 30 = .ok (.if_icmp .gt 928, 3) := by decide +kernel
theorem d_L_law_33 : decode b_L_law 33 = .ok (.aload_n 0, 1) := by decide +kernel
theorem d_L_law_34 : decode b_L_law 34 = .ok (.iload 4, 2) := by decide +kernel
theorem d_L_law_36 : decode b_L_law 36 = .ok (.iaload, 1) := by decide +kernel
theorem d_L_law_37 : decode b_L_law 37 = .ok (.bipush 15, 2) := by decide +kernel
theorem d_L_law_39 : decode b_L_law 39 = .ok (.iand, 1) := by decide +kernel
theorem d_L_law_40 : decode b_L_law 40 = .ok (.tableswitch 912 0 15 #[80, 148, 252, 332, 343, 391, 451, 499, 555, 611, 679, 692, 760, 796, 852, 888], 80) := by decide +kernel
theorem d_L_law_120 : decode b_L_law 120 = .ok (.aload_n 1, 1) := by decide +kernel
theorem d_L_law_121 : decode b_L_law 121 = .ok (.aload_n 0, 1) := by decide +kernel
theorem d_L_law_122 : decode b_L_law 122 = .ok (.iload 4, 2) := by decide +kernel
theorem d_L_law_124 : decode b_L_law 124 = .ok (.iconst 1, 1) := by decide +kernel
theorem d_L_law_125 : decode b_L_law 125 = .ok (.iadd, 1) := by decide +kernel
theorem d_L_law_126 : decode b_L_law 126 = .ok (.iaload, 1) := by decide +kernel
theorem d_L_law_127 : decode b_L_law 127 = .ok (.aload_n 0, 1) := by decide +kernel
theorem d_L_law_128 : decode b_L_law 128 = .ok (.iload 4, 2) := by decide +kernel
theorem d_L_law_130 : decode b_L_law 130 = .ok (.iconst 2, 1) := by decide +kernel
theorem d_L_law_131 : decode b_L_law 131 = .ok (.iadd, 1) := by decide +kernel
theorem d_L_law_132 : decode b_L_law 132 = .ok (.iaload, 1) := by decide +kernel
theorem d_L_law_133 : decode b_L_law 133 = .ok (.aload_n 3, 1) := by decide +kernel
theorem d_L_law_134 : decode b_L_law 134 = .ok (.invokestatic 70, 3) := by decide +kernel
theorem d_L_law_137 : decode b_L_law 137 = .ok (.istore 5, 2) := by decide +kernel
theorem d_L_law_139 : decode b_L_law 139 = .ok (.aload_n 2, 1) := by decide +kernel
theorem d_L_law_140 : decode b_L_law 140 = .ok (.aload_n 0, 1) := by decide +kernel
theorem d_L_law_141 : decode b_L_law 141 = .ok (.iload 4, 2) := by decide +kernel
theorem d_L_law_143 : decode b_L_law 143 = .ok (.iconst 1, 1) := by decide +kernel
theorem d_L_law_144 : decode b_L_law 144 = .ok (.iadd, 1) := by decide +kernel
theorem d_L_law_145 : decode b_L_law 145 = .ok (.iaload, 1) := by decide +kernel
theorem d_L_law_146 : decode b_L_law 146 = .ok (.aload_n 0, 1) := by decide +kernel
theorem d_L_law_147 : decode b_L_law 147 = .ok (.iload 4, 2) := by decide +kernel
theorem d_L_law_149 : decode b_L_law 149 = .ok (.iconst 2, 1) := by decide +kernel
theorem d_L_law_150 : decode b_L_law 150 = .ok (.iadd, 1) := by decide +kernel
theorem d_L_law_151 : decode b_L_law 151 = .ok (.iaload, 1) := by decide +kernel
theorem d_L_law_152 : decode b_L_law 152 = .ok (.invokevirtual 75, 3) := by decide +kernel
theorem d_L_law_155 : decode b_L_law 155 = .ok (.istore 6, 2) := by decide +kernel
theorem d_L_law_157 : decode b_L_law 157 = .ok (.aload_n 2, 1) := by decide +kernel
theorem d_L_law_158 : decode b_L_law 158 = .ok (.invokevirtual 76, 3) := by decide +kernel
theorem d_L_law_161 : decode b_L_law 161 = .ok (.iload 5, 2) := by decide +kernel
theorem d_L_law_163 : decode b_L_law 163 = .ok (.if_icmp .eq 5, 3) := by decide +kernel
theorem d_L_law_166 : decode b_L_law 166 = .ok (.iconst 0, 1) := by decide +kernel
theorem d_L_law_167 : decode b_L_law 167 = .ok (.ireturn, 1) := by decide +kernel
theorem d_L_law_168 : decode b_L_law 168 = .ok (.iload 5, 2) := by decide +kernel
theorem d_L_law_170 : decode b_L_law 170 = .ok (.ifCond .ne 15, 3) := by decide +kernel
theorem d_L_law_173 : decode b_L_law 173 = .ok (.aload_n 3, 1) := by decide +kernel
theorem d_L_law_174 : decode b_L_law 174 = .ok (.iconst 0, 1) := by decide +kernel
theorem d_L_law_175 : decode b_L_law 175 = .ok (.laload, 1) := by decide +kernel
theorem d_L_law_176 : decode b_L_law 176 = .ok (.iload 6, 2) := by decide +kernel
theorem d_L_law_178 : decode b_L_law 178 = .ok (.i2l, 1) := by decide +kernel
theorem d_L_law_179 : decode b_L_law 179 = .ok (.lcmp, 1) := by decide +kernel
theorem d_L_law_180 : decode b_L_law 180 = .ok (.ifCond .eq 5, 3) := by decide +kernel
theorem d_L_law_183 : decode b_L_law 183 = .ok (.iconst 0, 1) := by decide +kernel
theorem d_L_law_184 : decode b_L_law 184 = .ok (.ireturn, 1) := by decide +kernel
theorem d_L_law_185 : decode b_L_law 185 = .ok (.goto 767, 3) := by decide +kernel
theorem d_L_law_188 : decode b_L_law 188 = .ok (.aload_n 1, 1) := by decide +kernel
theorem d_L_law_189 : decode b_L_law 189 = .ok (.aload_n 0, 1) := by decide +kernel
theorem d_L_law_190 : decode b_L_law 190 = .ok (.iload 4, 2) := by decide +kernel
theorem d_L_law_192 : decode b_L_law 192 = .ok (.iconst 1, 1) := by decide +kernel
theorem d_L_law_193 : decode b_L_law 193 = .ok (.iadd, 1) := by decide +kernel
theorem d_L_law_194 : decode b_L_law 194 = .ok (.iaload, 1) := by decide +kernel
theorem d_L_law_195 : decode b_L_law 195 = .ok (.aload_n 0, 1) := by decide +kernel
theorem d_L_law_196 : decode b_L_law 196 = .ok (.iload 4, 2) := by decide +kernel
theorem d_L_law_198 : decode b_L_law 198 = .ok (.iconst 2, 1) := by decide +kernel
theorem d_L_law_199 : decode b_L_law 199 = .ok (.iadd, 1) := by decide +kernel
theorem d_L_law_200 : decode b_L_law 200 = .ok (.iaload, 1) := by decide +kernel
theorem d_L_law_201 : decode b_L_law 201 = .ok (.aload_n 0, 1) := by decide +kernel
theorem d_L_law_202 : decode b_L_law 202 = .ok (.iload 4, 2) := by decide +kernel
theorem d_L_law_204 : decode b_L_law 204 = .ok (.iconst 3, 1) := by decide +kernel
theorem d_L_law_205 : decode b_L_law 205 = .ok (.iadd, 1) := by decide +kernel
theorem d_L_law_206 : decode b_L_law 206 = .ok (.iaload, 1) := by decide +kernel
theorem d_L_law_207 : decode b_L_law 207 = .ok (.aload_n 0, 1) := by decide +kernel
theorem d_L_law_208 : decode b_L_law 208 = .ok (.iload 4, 2) := by decide +kernel
theorem d_L_law_210 : decode b_L_law 210 = .ok (.iconst 4, 1) := by decide +kernel
theorem d_L_law_211 : decode b_L_law 211 = .ok (.iadd, 1) := by decide +kernel
theorem d_L_law_212 : decode b_L_law 212 = .ok (.iaload, 1) := by decide +kernel
theorem d_L_law_213 : decode b_L_law 213 = .ok (.aload_n 0, 1) := by decide +kernel
theorem d_L_law_214 : decode b_L_law 214 = .ok (.iload 4, 2) := by decide +kernel
theorem d_L_law_216 : decode b_L_law 216 = .ok (.iconst 5, 1) := by decide +kernel
theorem d_L_law_217 : decode b_L_law 217 = .ok (.iadd, 1) := by decide +kernel
theorem d_L_law_218 : decode b_L_law 218 = .ok (.iaload, 1) := by decide +kernel
theorem d_L_law_219 : decode b_L_law 219 = .ok (.aload_n 3, 1) := by decide +kernel
theorem d_L_law_220 : decode b_L_law 220 = .ok (.invokestatic 80, 3) := by decide +kernel
theorem d_L_law_223 : decode b_L_law 223 = .ok (.istore 5, 2) := by decide +kernel
theorem d_L_law_225 : decode b_L_law 225 = .ok (.aload_n 2, 1) := by decide +kernel
theorem d_L_law_226 : decode b_L_law 226 = .ok (.aload_n 0, 1) := by decide +kernel
theorem d_L_law_227 : decode b_L_law 227 = .ok (.iload 4, 2) := by decide +kernel
theorem d_L_law_229 : decode b_L_law 229 = .ok (.iconst 1, 1) := by decide +kernel
theorem d_L_law_230 : decode b_L_law 230 = .ok (.iadd, 1) := by decide +kernel
theorem d_L_law_231 : decode b_L_law 231 = .ok (.iaload, 1) := by decide +kernel
theorem d_L_law_232 : decode b_L_law 232 = .ok (.aload_n 0, 1) := by decide +kernel
theorem d_L_law_233 : decode b_L_law 233 = .ok (.iload 4, 2) := by decide +kernel
theorem d_L_law_235 : decode b_L_law 235 = .ok (.iconst 2, 1) := by decide +kernel
theorem d_L_law_236 : decode b_L_law 236 = .ok (.iadd, 1) := by decide +kernel
theorem d_L_law_237 : decode b_L_law 237 = .ok (.iaload, 1) := by decide +kernel
theorem d_L_law_238 : decode b_L_law 238 = .ok (.aload_n 0, 1) := by decide +kernel
theorem d_L_law_239 : decode b_L_law 239 = .ok (.iload 4, 2) := by decide +kernel
theorem d_L_law_241 : decode b_L_law 241 = .ok (.iconst 3, 1) := by decide +kernel
theorem d_L_law_242 : decode b_L_law 242 = .ok (.iadd, 1) := by decide +kernel
theorem d_L_law_243 : decode b_L_law 243 = .ok (.iaload, 1) := by decide +kernel
theorem d_L_law_244 : decode b_L_law 244 = .ok (.aload_n 0, 1) := by decide +kernel
theorem d_L_law_245 : decode b_L_law 245 = .ok (.iload 4, 2) := by decide +kernel
theorem d_L_law_247 : decode b_L_law 247 = .ok (.iconst 4, 1) := by decide +kernel
theorem d_L_law_248 : decode b_L_law 248 = .ok (.iadd, 1) := by decide +kernel
theorem d_L_law_249 : decode b_L_law 249 = .ok (.iaload, 1) := by decide +kernel
theorem d_L_law_250 : decode b_L_law 250 = .ok (.aload_n 0, 1) := by decide +kernel
theorem d_L_law_251 : decode b_L_law 251 = .ok (.iload 4, 2) := by decide +kernel
theorem d_L_law_253 : decode b_L_law 253 = .ok (.iconst 5, 1) := by decide +kernel
theorem d_L_law_254 : decode b_L_law 254 = .ok (.iadd, 1) := by decide +kernel
theorem d_L_law_255 : decode b_L_law 255 = .ok (.iaload, 1) := by decide +kernel
theorem d_L_law_256 : decode b_L_law 256 = .ok (.invokevirtual 83, 3) := by decide +kernel
theorem d_L_law_259 : decode b_L_law 259 = .ok (.istore 6, 2) := by decide +kernel
theorem d_L_law_261 : decode b_L_law 261 = .ok (.aload_n 2, 1) := by decide +kernel
theorem d_L_law_262 : decode b_L_law 262 = .ok (.invokevirtual 76, 3) := by decide +kernel
theorem d_L_law_265 : decode b_L_law 265 = .ok (.iload 5, 2) := by decide +kernel
theorem d_L_law_267 : decode b_L_law 267 = .ok (.if_icmp .eq 5, 3) := by decide +kernel
theorem d_L_law_270 : decode b_L_law 270 = .ok (.iconst 0, 1) := by decide +kernel
theorem d_L_law_271 : decode b_L_law 271 = .ok (.ireturn, 1) := by decide +kernel
theorem d_L_law_272 : decode b_L_law 272 = .ok (.iload 5, 2) := by decide +kernel
theorem d_L_law_274 : decode b_L_law 274 = .ok (.ifCond .ne 15, 3) := by decide +kernel
theorem d_L_law_277 : decode b_L_law 277 = .ok (.aload_n 3, 1) := by decide +kernel
theorem d_L_law_278 : decode b_L_law 278 = .ok (.iconst 0, 1) := by decide +kernel
theorem d_L_law_279 : decode b_L_law 279 = .ok (.laload, 1) := by decide +kernel
theorem d_L_law_280 : decode b_L_law 280 = .ok (.iload 6, 2) := by decide +kernel
theorem d_L_law_282 : decode b_L_law 282 = .ok (.i2l, 1) := by decide +kernel
theorem d_L_law_283 : decode b_L_law 283 = .ok (.lcmp, 1) := by decide +kernel
theorem d_L_law_284 : decode b_L_law 284 = .ok (.ifCond .eq 5, 3) := by decide +kernel
theorem d_L_law_287 : decode b_L_law 287 = .ok (.iconst 0, 1) := by decide +kernel
theorem d_L_law_288 : decode b_L_law 288 = .ok (.ireturn, 1) := by decide +kernel
theorem d_L_law_289 : decode b_L_law 289 = .ok (.goto 663, 3) := by decide +kernel
theorem d_L_law_292 : decode b_L_law 292 = .ok (.aload_n 1, 1) := by decide +kernel
theorem d_L_law_293 : decode b_L_law 293 = .ok (.aload_n 0, 1) := by decide +kernel
theorem d_L_law_294 : decode b_L_law 294 = .ok (.iload 4, 2) := by decide +kernel
theorem d_L_law_296 : decode b_L_law 296 = .ok (.iconst 1, 1) := by decide +kernel
theorem d_L_law_297 : decode b_L_law 297 = .ok (.iadd, 1) := by decide +kernel
theorem d_L_law_298 : decode b_L_law 298 = .ok (.iaload, 1) := by decide +kernel
theorem d_L_law_299 : decode b_L_law 299 = .ok (.aload_n 0, 1) := by decide +kernel
theorem d_L_law_300 : decode b_L_law 300 = .ok (.iload 4, 2) := by decide +kernel
theorem d_L_law_302 : decode b_L_law 302 = .ok (.iconst 2, 1) := by decide +kernel
theorem d_L_law_303 : decode b_L_law 303 = .ok (.iadd, 1) := by decide +kernel
theorem d_L_law_304 : decode b_L_law 304 = .ok (.iaload, 1) := by decide +kernel
theorem d_L_law_305 : decode b_L_law 305 = .ok (.aload_n 0, 1) := by decide +kernel
theorem d_L_law_306 : decode b_L_law 306 = .ok (.iload 4, 2) := by decide +kernel
theorem d_L_law_308 : decode b_L_law 308 = .ok (.iconst 3, 1) := by decide +kernel
theorem d_L_law_309 : decode b_L_law 309 = .ok (.iadd, 1) := by decide +kernel
theorem d_L_law_310 : decode b_L_law 310 = .ok (.iaload, 1) := by decide +kernel
theorem d_L_law_311 : decode b_L_law 311 = .ok (.aload_n 3, 1) := by decide +kernel
theorem d_L_law_312 : decode b_L_law 312 = .ok (.invokestatic 84, 3) := by decide +kernel
theorem d_L_law_315 : decode b_L_law 315 = .ok (.istore 5, 2) := by decide +kernel
theorem d_L_law_317 : decode b_L_law 317 = .ok (.aload_n 2, 1) := by decide +kernel
theorem d_L_law_318 : decode b_L_law 318 = .ok (.aload_n 0, 1) := by decide +kernel
theorem d_L_law_319 : decode b_L_law 319 = .ok (.iload 4, 2) := by decide +kernel
theorem d_L_law_321 : decode b_L_law 321 = .ok (.iconst 1, 1) := by decide +kernel
theorem d_L_law_322 : decode b_L_law 322 = .ok (.iadd, 1) := by decide +kernel
theorem d_L_law_323 : decode b_L_law 323 = .ok (.iaload, 1) := by decide +kernel
theorem d_L_law_324 : decode b_L_law 324 = .ok (.aload_n 0, 1) := by decide +kernel
theorem d_L_law_325 : decode b_L_law 325 = .ok (.iload 4, 2) := by decide +kernel
theorem d_L_law_327 : decode b_L_law 327 = .ok (.iconst 2, 1) := by decide +kernel
theorem d_L_law_328 : decode b_L_law 328 = .ok (.iadd, 1) := by decide +kernel
theorem d_L_law_329 : decode b_L_law 329 = .ok (.iaload, 1) := by decide +kernel
theorem d_L_law_330 : decode b_L_law 330 = .ok (.aload_n 0, 1) := by decide +kernel
theorem d_L_law_331 : decode b_L_law 331 = .ok (.iload 4, 2) := by decide +kernel
theorem d_L_law_333 : decode b_L_law 333 = .ok (.iconst 3, 1) := by decide +kernel
theorem d_L_law_334 : decode b_L_law 334 = .ok (.iadd, 1) := by decide +kernel
theorem d_L_law_335 : decode b_L_law 335 = .ok (.iaload, 1) := by decide +kernel
theorem d_L_law_336 : decode b_L_law 336 = .ok (.invokevirtual 87, 3) := by decide +kernel
theorem d_L_law_339 : decode b_L_law 339 = .ok (.istore 6, 2) := by decide +kernel
theorem d_L_law_341 : decode b_L_law 341 = .ok (.aload_n 2, 1) := by decide +kernel
theorem d_L_law_342 : decode b_L_law 342 = .ok (.invokevirtual 76, 3) := by decide +kernel
theorem d_L_law_345 : decode b_L_law 345 = .ok (.iload 5, 2) := by decide +kernel
theorem d_L_law_347 : decode b_L_law 347 = .ok (.if_icmp .eq 5, 3) := by decide +kernel
theorem d_L_law_350 : decode b_L_law 350 = .ok (.iconst 0, 1) := by decide +kernel
theorem d_L_law_351 : decode b_L_law 351 = .ok (.ireturn, 1) := by decide +kernel
theorem d_L_law_352 : decode b_L_law 352 = .ok (.iload 5, 2) := by decide +kernel
theorem d_L_law_354 : decode b_L_law 354 = .ok (.ifCond .ne 15, 3) := by decide +kernel
theorem d_L_law_357 : decode b_L_law 357 = .ok (.aload_n 3, 1) := by decide +kernel
theorem d_L_law_358 : decode b_L_law 358 = .ok (.iconst 0, 1) := by decide +kernel
theorem d_L_law_359 : decode b_L_law 359 = .ok (.laload, 1) := by decide +kernel
theorem d_L_law_360 : decode b_L_law 360 = .ok (.iload 6, 2) := by decide +kernel
theorem d_L_law_362 : decode b_L_law 362 = .ok (.i2l, 1) := by decide +kernel
theorem d_L_law_363 : decode b_L_law 363 = .ok (.lcmp, 1) := by decide +kernel
theorem d_L_law_364 : decode b_L_law 364 = .ok (.ifCond .eq 5, 3) := by decide +kernel
theorem d_L_law_367 : decode b_L_law 367 = .ok (.iconst 0, 1) := by decide +kernel
theorem d_L_law_368 : decode b_L_law 368 = .ok (.ireturn, 1) := by decide +kernel
theorem d_L_law_369 : decode b_L_law 369 = .ok (.goto 583, 3) := by decide +kernel
theorem d_L_law_372 : decode b_L_law 372 = .ok (.aload_n 1, 1) := by decide +kernel
theorem d_L_law_373 : decode b_L_law 373 = .ok (.invokevirtual 88, 3) := by decide +kernel
theorem d_L_law_376 : decode b_L_law 376 = .ok (.aload_n 2, 1) := by decide +kernel
theorem d_L_law_377 : decode b_L_law 377 = .ok (.invokevirtual 91, 3) := by decide +kernel
theorem d_L_law_380 : decode b_L_law 380 = .ok (.goto 572, 3) := by decide +kernel
theorem d_L_law_383 : decode b_L_law 383 = .ok (.aload_n 1, 1) := by decide +kernel
theorem d_L_law_384 : decode b_L_law 384 = .ok (.aload_n 0, 1) := by decide +kernel
theorem d_L_law_385 : decode b_L_law 385 = .ok (.iload 4, 2) := by decide +kernel
theorem d_L_law_387 : decode b_L_law 387 = .ok (.iconst 1, 1) := by decide +kernel
theorem d_L_law_388 : decode b_L_law 388 = .ok (.iadd, 1) := by decide +kernel
theorem d_L_law_389 : decode b_L_law 389 = .ok (.iaload, 1) := by decide +kernel
theorem d_L_law_390 : decode b_L_law 390 = .ok (.aload_n 0, 1) := by decide +kernel
theorem d_L_law_391 : decode b_L_law 391 = .ok (.iload 4, 2) := by decide +kernel
theorem d_L_law_393 : decode b_L_law 393 = .ok (.iconst 2, 1) := by decide +kernel
theorem d_L_law_394 : decode b_L_law 394 = .ok (.iadd, 1) := by decide +kernel
theorem d_L_law_395 : decode b_L_law 395 = .ok (.iaload, 1) := by decide +kernel
theorem d_L_law_396 : decode b_L_law 396 = .ok (.invokestatic 92, 3) := by decide +kernel
theorem d_L_law_399 : decode b_L_law 399 = .ok (.istore 5, 2) := by decide +kernel
theorem d_L_law_401 : decode b_L_law 401 = .ok (.aload_n 2, 1) := by decide +kernel
theorem d_L_law_402 : decode b_L_law 402 = .ok (.aload_n 0, 1) := by decide +kernel
theorem d_L_law_403 : decode b_L_law 403 = .ok (.iload 4, 2) := by decide +kernel
theorem d_L_law_405 : decode b_L_law 405 = .ok (.iconst 1, 1) := by decide +kernel
theorem d_L_law_406 : decode b_L_law 406 = .ok (.iadd, 1) := by decide +kernel
theorem d_L_law_407 : decode b_L_law 407 = .ok (.iaload, 1) := by decide +kernel
theorem d_L_law_408 : decode b_L_law 408 = .ok (.aload_n 0, 1) := by decide +kernel
theorem d_L_law_409 : decode b_L_law 409 = .ok (.iload 4, 2) := by decide +kernel
theorem d_L_law_411 : decode b_L_law 411 = .ok (.iconst 2, 1) := by decide +kernel
theorem d_L_law_412 : decode b_L_law 412 = .ok (.iadd, 1) := by decide +kernel
theorem d_L_law_413 : decode b_L_law 413 = .ok (.iaload, 1) := by decide +kernel
theorem d_L_law_414 : decode b_L_law 414 = .ok (.invokevirtual 95, 3) := by decide +kernel
theorem d_L_law_417 : decode b_L_law 417 = .ok (.aload_n 2, 1) := by decide +kernel
theorem d_L_law_418 : decode b_L_law 418 = .ok (.invokevirtual 76, 3) := by decide +kernel
theorem d_L_law_421 : decode b_L_law 421 = .ok (.iload 5, 2) := by decide +kernel
theorem d_L_law_423 : decode b_L_law 423 = .ok (.if_icmp .eq 5, 3) := by decide +kernel
theorem d_L_law_426 : decode b_L_law 426 = .ok (.iconst 0, 1) := by decide +kernel
theorem d_L_law_427 : decode b_L_law 427 = .ok (.ireturn, 1) := by decide +kernel
theorem d_L_law_428 : decode b_L_law 428 = .ok (.goto 524, 3) := by decide +kernel
theorem d_L_law_431 : decode b_L_law 431 = .ok (.aload_n 1, 1) := by decide +kernel
theorem d_L_law_432 : decode b_L_law 432 = .ok (.aload_n 0, 1) := by decide +kernel
theorem d_L_law_433 : decode b_L_law 433 = .ok (.iload 4, 2) := by decide +kernel
theorem d_L_law_435 : decode b_L_law 435 = .ok (.iconst 1, 1) := by decide +kernel
theorem d_L_law_436 : decode b_L_law 436 = .ok (.iadd, 1) := by decide +kernel
theorem d_L_law_437 : decode b_L_law 437 = .ok (.iaload, 1) := by decide +kernel
theorem d_L_law_438 : decode b_L_law 438 = .ok (.aload_n 0, 1) := by decide +kernel
theorem d_L_law_439 : decode b_L_law 439 = .ok (.iload 4, 2) := by decide +kernel
theorem d_L_law_441 : decode b_L_law 441 = .ok (.iconst 2, 1) := by decide +kernel
theorem d_L_law_442 : decode b_L_law 442 = .ok (.iadd, 1) := by decide +kernel
theorem d_L_law_443 : decode b_L_law 443 = .ok (.iaload, 1) := by decide +kernel
theorem d_L_law_444 : decode b_L_law 444 = .ok (.aload_n 0, 1) := by decide +kernel
theorem d_L_law_445 : decode b_L_law 445 = .ok (.iload 4, 2) := by decide +kernel
theorem d_L_law_447 : decode b_L_law 447 = .ok (.iconst 3, 1) := by decide +kernel
theorem d_L_law_448 : decode b_L_law 448 = .ok (.iadd, 1) := by decide +kernel
theorem d_L_law_449 : decode b_L_law 449 = .ok (.iaload, 1) := by decide +kernel
theorem d_L_law_450 : decode b_L_law 450 = .ok (.invokestatic 96, 3) := by decide +kernel
theorem d_L_law_453 : decode b_L_law 453 = .ok (.istore 5, 2) := by decide +kernel
theorem d_L_law_455 : decode b_L_law 455 = .ok (.aload_n 2, 1) := by decide +kernel
theorem d_L_law_456 : decode b_L_law 456 = .ok (.aload_n 0, 1) := by decide +kernel
theorem d_L_law_457 : decode b_L_law 457 = .ok (.iload 4, 2) := by decide +kernel
theorem d_L_law_459 : decode b_L_law 459 = .ok (.iconst 1, 1) := by decide +kernel
theorem d_L_law_460 : decode b_L_law 460 = .ok (.iadd, 1) := by decide +kernel
theorem d_L_law_461 : decode b_L_law 461 = .ok (.iaload, 1) := by decide +kernel
theorem d_L_law_462 : decode b_L_law 462 = .ok (.aload_n 0, 1) := by decide +kernel
theorem d_L_law_463 : decode b_L_law 463 = .ok (.iload 4, 2) := by decide +kernel
theorem d_L_law_465 : decode b_L_law 465 = .ok (.iconst 2, 1) := by decide +kernel
theorem d_L_law_466 : decode b_L_law 466 = .ok (.iadd, 1) := by decide +kernel
theorem d_L_law_467 : decode b_L_law 467 = .ok (.iaload, 1) := by decide +kernel
theorem d_L_law_468 : decode b_L_law 468 = .ok (.aload_n 0, 1) := by decide +kernel
theorem d_L_law_469 : decode b_L_law 469 = .ok (.iload 4, 2) := by decide +kernel
theorem d_L_law_471 : decode b_L_law 471 = .ok (.iconst 3, 1) := by decide +kernel
theorem d_L_law_472 : decode b_L_law 472 = .ok (.iadd, 1) := by decide +kernel
theorem d_L_law_473 : decode b_L_law 473 = .ok (.iaload, 1) := by decide +kernel
theorem d_L_law_474 : decode b_L_law 474 = .ok (.invokevirtual 99, 3) := by decide +kernel
theorem d_L_law_477 : decode b_L_law 477 = .ok (.aload_n 2, 1) := by decide +kernel
theorem d_L_law_478 : decode b_L_law 478 = .ok (.invokevirtual 76, 3) := by decide +kernel
theorem d_L_law_481 : decode b_L_law 481 = .ok (.iload 5, 2) := by decide +kernel
theorem d_L_law_483 : decode b_L_law 483 = .ok (.if_icmp .eq 5, 3) := by decide +kernel
theorem d_L_law_486 : decode b_L_law 486 = .ok (.iconst 0, 1) := by decide +kernel
theorem d_L_law_487 : decode b_L_law 487 = .ok (.ireturn, 1) := by decide +kernel
theorem d_L_law_488 : decode b_L_law 488 = .ok (.goto 464, 3) := by decide +kernel
theorem d_L_law_491 : decode b_L_law 491 = .ok (.aload_n 1, 1) := by decide +kernel
theorem d_L_law_492 : decode b_L_law 492 = .ok (.aload_n 0, 1) := by decide +kernel
theorem d_L_law_493 : decode b_L_law 493 = .ok (.iload 4, 2) := by decide +kernel
theorem d_L_law_495 : decode b_L_law 495 = .ok (.iconst 1, 1) := by decide +kernel
theorem d_L_law_496 : decode b_L_law 496 = .ok (.iadd, 1) := by decide +kernel
theorem d_L_law_497 : decode b_L_law 497 = .ok (.iaload, 1) := by decide +kernel
theorem d_L_law_498 : decode b_L_law 498 = .ok (.aload_n 0, 1) := by decide +kernel
theorem d_L_law_499 : decode b_L_law 499 = .ok (.iload 4, 2) := by decide +kernel
theorem d_L_law_501 : decode b_L_law 501 = .ok (.iconst 2, 1) := by decide +kernel
theorem d_L_law_502 : decode b_L_law 502 = .ok (.iadd, 1) := by decide +kernel
theorem d_L_law_503 : decode b_L_law 503 = .ok (.iaload, 1) := by decide +kernel
theorem d_L_law_504 : decode b_L_law 504 = .ok (.invokestatic 100, 3) := by decide +kernel
theorem d_L_law_507 : decode b_L_law 507 = .ok (.istore 5, 2) := by decide +kernel
theorem d_L_law_509 : decode b_L_law 509 = .ok (.aload_n 2, 1) := by decide +kernel
theorem d_L_law_510 : decode b_L_law 510 = .ok (.aload_n 0, 1) := by decide +kernel
theorem d_L_law_511 : decode b_L_law 511 = .ok (.iload 4, 2) := by decide +kernel
theorem d_L_law_513 : decode b_L_law 513 = .ok (.iconst 1, 1) := by decide +kernel
theorem d_L_law_514 : decode b_L_law 514 = .ok (.iadd, 1) := by decide +kernel
theorem d_L_law_515 : decode b_L_law 515 = .ok (.iaload, 1) := by decide +kernel
theorem d_L_law_516 : decode b_L_law 516 = .ok (.aload_n 0, 1) := by decide +kernel
theorem d_L_law_517 : decode b_L_law 517 = .ok (.iload 4, 2) := by decide +kernel
theorem d_L_law_519 : decode b_L_law 519 = .ok (.iconst 2, 1) := by decide +kernel
theorem d_L_law_520 : decode b_L_law 520 = .ok (.iadd, 1) := by decide +kernel
theorem d_L_law_521 : decode b_L_law 521 = .ok (.iaload, 1) := by decide +kernel
theorem d_L_law_522 : decode b_L_law 522 = .ok (.invokevirtual 102, 3) := by decide +kernel
theorem d_L_law_525 : decode b_L_law 525 = .ok (.aload_n 2, 1) := by decide +kernel
theorem d_L_law_526 : decode b_L_law 526 = .ok (.invokevirtual 76, 3) := by decide +kernel
theorem d_L_law_529 : decode b_L_law 529 = .ok (.iload 5, 2) := by decide +kernel
theorem d_L_law_531 : decode b_L_law 531 = .ok (.if_icmp .eq 5, 3) := by decide +kernel
theorem d_L_law_534 : decode b_L_law 534 = .ok (.iconst 0, 1) := by decide +kernel
theorem d_L_law_535 : decode b_L_law 535 = .ok (.ireturn, 1) := by decide +kernel
theorem d_L_law_536 : decode b_L_law 536 = .ok (.goto 416, 3) := by decide +kernel
theorem d_L_law_539 : decode b_L_law 539 = .ok (.aload_n 1, 1) := by decide +kernel
theorem d_L_law_540 : decode b_L_law 540 = .ok (.aload_n 0, 1) := by decide +kernel
theorem d_L_law_541 : decode b_L_law 541 = .ok (.iload 4, 2) := by decide +kernel
theorem d_L_law_543 : decode b_L_law 543 = .ok (.iconst 1, 1) := by decide +kernel
theorem d_L_law_544 : decode b_L_law 544 = .ok (.iadd, 1) := by decide +kernel
theorem d_L_law_545 : decode b_L_law 545 = .ok (.iaload, 1) := by decide +kernel
theorem d_L_law_546 : decode b_L_law 546 = .ok (.aload_n 3, 1) := by decide +kernel
theorem d_L_law_547 : decode b_L_law 547 = .ok (.invokestatic 103, 3) := by decide +kernel
theorem d_L_law_550 : decode b_L_law 550 = .ok (.istore 5, 2) := by decide +kernel
theorem d_L_law_552 : decode b_L_law 552 = .ok (.aload_n 2, 1) := by decide +kernel
theorem d_L_law_553 : decode b_L_law 553 = .ok (.aload_n 0, 1) := by decide +kernel
theorem d_L_law_554 : decode b_L_law 554 = .ok (.iload 4, 2) := by decide +kernel
theorem d_L_law_556 : decode b_L_law 556 = .ok (.iconst 1, 1) := by decide +kernel
theorem d_L_law_557 : decode b_L_law 557 = .ok (.iadd, 1) := by decide +kernel
theorem d_L_law_558 : decode b_L_law 558 = .ok (.iaload, 1) := by decide +kernel
theorem d_L_law_559 : decode b_L_law 559 = .ok (.invokevirtual 106, 3) := by decide +kernel
theorem d_L_law_562 : decode b_L_law 562 = .ok (.istore 6, 2) := by decide +kernel
theorem d_L_law_564 : decode b_L_law 564 = .ok (.aload_n 2, 1) := by decide +kernel
theorem d_L_law_565 : decode b_L_law 565 = .ok (.invokevirtual 76, 3) := by decide +kernel
theorem d_L_law_568 : decode b_L_law 568 = .ok (.iload 5, 2) := by decide +kernel
theorem d_L_law_570 : decode b_L_law 570 = .ok (.if_icmp .eq 5, 3) := by decide +kernel
theorem d_L_law_573 : decode b_L_law 573 = .ok (.iconst 0, 1) := by decide +kernel
theorem d_L_law_574 : decode b_L_law 574 = .ok (.ireturn, 1) := by decide +kernel
theorem d_L_law_575 : decode b_L_law 575 = .ok (.iload 5, 2) := by decide +kernel
theorem d_L_law_577 : decode b_L_law 577 = .ok (.ifCond .ne 15, 3) := by decide +kernel
theorem d_L_law_580 : decode b_L_law 580 = .ok (.aload_n 3, 1) := by decide +kernel
theorem d_L_law_581 : decode b_L_law 581 = .ok (.iconst 0, 1) := by decide +kernel
theorem d_L_law_582 : decode b_L_law 582 = .ok (.laload, 1) := by decide +kernel
theorem d_L_law_583 : decode b_L_law 583 = .ok (.iload 6, 2) := by decide +kernel
theorem d_L_law_585 : decode b_L_law 585 = .ok (.i2l, 1) := by decide +kernel
theorem d_L_law_586 : decode b_L_law 586 = .ok (.lcmp, 1) := by decide +kernel
theorem d_L_law_587 : decode b_L_law 587 = .ok (.ifCond .eq 5, 3) := by decide +kernel
theorem d_L_law_590 : decode b_L_law 590 = .ok (.iconst 0, 1) := by decide +kernel
theorem d_L_law_591 : decode b_L_law 591 = .ok (.ireturn, 1) := by decide +kernel
theorem d_L_law_592 : decode b_L_law 592 = .ok (.goto 360, 3) := by decide +kernel
theorem d_L_law_595 : decode b_L_law 595 = .ok (.aload_n 1, 1) := by decide +kernel
theorem d_L_law_596 : decode b_L_law 596 = .ok (.aload_n 0, 1) := by decide +kernel
theorem d_L_law_597 : decode b_L_law 597 = .ok (.iload 4, 2) := by decide +kernel
theorem d_L_law_599 : decode b_L_law 599 = .ok (.iconst 1, 1) := by decide +kernel
theorem d_L_law_600 : decode b_L_law 600 = .ok (.iadd, 1) := by decide +kernel
theorem d_L_law_601 : decode b_L_law 601 = .ok (.iaload, 1) := by decide +kernel
theorem d_L_law_602 : decode b_L_law 602 = .ok (.aload_n 3, 1) := by decide +kernel
theorem d_L_law_603 : decode b_L_law 603 = .ok (.invokestatic 107, 3) := by decide +kernel
theorem d_L_law_606 : decode b_L_law 606 = .ok (.istore 5, 2) := by decide +kernel
theorem d_L_law_608 : decode b_L_law 608 = .ok (.aload_n 2, 1) := by decide +kernel
theorem d_L_law_609 : decode b_L_law 609 = .ok (.aload_n 0, 1) := by decide +kernel
theorem d_L_law_610 : decode b_L_law 610 = .ok (.iload 4, 2) := by decide +kernel
theorem d_L_law_612 : decode b_L_law 612 = .ok (.iconst 1, 1) := by decide +kernel
theorem d_L_law_613 : decode b_L_law 613 = .ok (.iadd, 1) := by decide +kernel
theorem d_L_law_614 : decode b_L_law 614 = .ok (.iaload, 1) := by decide +kernel
theorem d_L_law_615 : decode b_L_law 615 = .ok (.invokevirtual 109, 3) := by decide +kernel
theorem d_L_law_618 : decode b_L_law 618 = .ok (.istore 6, 2) := by decide +kernel
theorem d_L_law_620 : decode b_L_law 620 = .ok (.aload_n 2, 1) := by decide +kernel
theorem d_L_law_621 : decode b_L_law 621 = .ok (.invokevirtual 76, 3) := by decide +kernel
theorem d_L_law_624 : decode b_L_law 624 = .ok (.iload 5, 2) := by decide +kernel
theorem d_L_law_626 : decode b_L_law 626 = .ok (.if_icmp .eq 5, 3) := by decide +kernel
theorem d_L_law_629 : decode b_L_law 629 = .ok (.iconst 0, 1) := by decide +kernel
theorem d_L_law_630 : decode b_L_law 630 = .ok (.ireturn, 1) := by decide +kernel
theorem d_L_law_631 : decode b_L_law 631 = .ok (.iload 5, 2) := by decide +kernel
theorem d_L_law_633 : decode b_L_law 633 = .ok (.ifCond .ne 15, 3) := by decide +kernel
theorem d_L_law_636 : decode b_L_law 636 = .ok (.aload_n 3, 1) := by decide +kernel
theorem d_L_law_637 : decode b_L_law 637 = .ok (.iconst 0, 1) := by decide +kernel
theorem d_L_law_638 : decode b_L_law 638 = .ok (.laload, 1) := by decide +kernel
theorem d_L_law_639 : decode b_L_law 639 = .ok (.iload 6, 2) := by decide +kernel
theorem d_L_law_641 : decode b_L_law 641 = .ok (.i2l, 1) := by decide +kernel
theorem d_L_law_642 : decode b_L_law 642 = .ok (.lcmp, 1) := by decide +kernel
theorem d_L_law_643 : decode b_L_law 643 = .ok (.ifCond .eq 5, 3) := by decide +kernel
theorem d_L_law_646 : decode b_L_law 646 = .ok (.iconst 0, 1) := by decide +kernel
theorem d_L_law_647 : decode b_L_law 647 = .ok (.ireturn, 1) := by decide +kernel
theorem d_L_law_648 : decode b_L_law 648 = .ok (.goto 304, 3) := by decide +kernel
theorem d_L_law_651 : decode b_L_law 651 = .ok (.aload_n 1, 1) := by decide +kernel
theorem d_L_law_652 : decode b_L_law 652 = .ok (.aload_n 0, 1) := by decide +kernel
theorem d_L_law_653 : decode b_L_law 653 = .ok (.iload 4, 2) := by decide +kernel
theorem d_L_law_655 : decode b_L_law 655 = .ok (.iconst 1, 1) := by decide +kernel
theorem d_L_law_656 : decode b_L_law 656 = .ok (.iadd, 1) := by decide +kernel
theorem d_L_law_657 : decode b_L_law 657 = .ok (.iaload, 1) := by decide +kernel
theorem d_L_law_658 : decode b_L_law 658 = .ok (.aload_n 0, 1) := by decide +kernel
theorem d_L_law_659 : decode b_L_law 659 = .ok (.iload 4, 2) := by decide +kernel
theorem d_L_law_661 : decode b_L_law 661 = .ok (.iconst 2, 1) := by decide +kernel
theorem d_L_law_662 : decode b_L_law 662 = .ok (.iadd, 1) := by decide +kernel
theorem d_L_law_663 : decode b_L_law 663 = .ok (.iaload, 1) := by decide +kernel
theorem d_L_law_664 : decode b_L_law 664 = .ok (.aload_n 3, 1) := by decide +kernel
theorem d_L_law_665 : decode b_L_law 665 = .ok (.invokestatic 110, 3) := by decide +kernel
theorem d_L_law_668 : decode b_L_law 668 = .ok (.istore 5, 2) := by decide +kernel
theorem d_L_law_670 : decode b_L_law 670 = .ok (.aload_n 2, 1) := by decide +kernel
theorem d_L_law_671 : decode b_L_law 671 = .ok (.aload_n 0, 1) := by decide +kernel
theorem d_L_law_672 : decode b_L_law 672 = .ok (.iload 4, 2) := by decide +kernel
theorem d_L_law_674 : decode b_L_law 674 = .ok (.iconst 1, 1) := by decide +kernel
theorem d_L_law_675 : decode b_L_law 675 = .ok (.iadd, 1) := by decide +kernel
theorem d_L_law_676 : decode b_L_law 676 = .ok (.iaload, 1) := by decide +kernel
theorem d_L_law_677 : decode b_L_law 677 = .ok (.aload_n 0, 1) := by decide +kernel
theorem d_L_law_678 : decode b_L_law 678 = .ok (.iload 4, 2) := by decide +kernel
theorem d_L_law_680 : decode b_L_law 680 = .ok (.iconst 2, 1) := by decide +kernel
theorem d_L_law_681 : decode b_L_law 681 = .ok (.iadd, 1) := by decide +kernel
theorem d_L_law_682 : decode b_L_law 682 = .ok (.iaload, 1) := by decide +kernel
theorem d_L_law_683 : decode b_L_law 683 = .ok (.invokevirtual 112, 3) := by decide +kernel
theorem d_L_law_686 : decode b_L_law 686 = .ok (.istore 6, 2) := by decide +kernel
theorem d_L_law_688 : decode b_L_law 688 = .ok (.aload_n 2, 1) := by decide +kernel
theorem d_L_law_689 : decode b_L_law 689 = .ok (.invokevirtual 76, 3) := by decide +kernel
theorem d_L_law_692 : decode b_L_law 692 = .ok (.iload 5, 2) := by decide +kernel
theorem d_L_law_694 : decode b_L_law 694 = .ok (.if_icmp .eq 5, 3) := by decide +kernel
theorem d_L_law_697 : decode b_L_law 697 = .ok (.iconst 0, 1) := by decide +kernel
theorem d_L_law_698 : decode b_L_law 698 = .ok (.ireturn, 1) := by decide +kernel
theorem d_L_law_699 : decode b_L_law 699 = .ok (.iload 5, 2) := by decide +kernel
theorem d_L_law_701 : decode b_L_law 701 = .ok (.ifCond .ne 15, 3) := by decide +kernel
theorem d_L_law_704 : decode b_L_law 704 = .ok (.aload_n 3, 1) := by decide +kernel
theorem d_L_law_705 : decode b_L_law 705 = .ok (.iconst 0, 1) := by decide +kernel
theorem d_L_law_706 : decode b_L_law 706 = .ok (.laload, 1) := by decide +kernel
theorem d_L_law_707 : decode b_L_law 707 = .ok (.iload 6, 2) := by decide +kernel
theorem d_L_law_709 : decode b_L_law 709 = .ok (.i2l, 1) := by decide +kernel
theorem d_L_law_710 : decode b_L_law 710 = .ok (.lcmp, 1) := by decide +kernel
theorem d_L_law_711 : decode b_L_law 711 = .ok (.ifCond .eq 5, 3) := by decide +kernel
theorem d_L_law_714 : decode b_L_law 714 = .ok (.iconst 0, 1) := by decide +kernel
theorem d_L_law_715 : decode b_L_law 715 = .ok (.ireturn, 1) := by decide +kernel
theorem d_L_law_716 : decode b_L_law 716 = .ok (.goto 236, 3) := by decide +kernel
theorem d_L_law_719 : decode b_L_law 719 = .ok (.aload_n 1, 1) := by decide +kernel
theorem d_L_law_720 : decode b_L_law 720 = .ok (.invokevirtual 113, 3) := by decide +kernel
theorem d_L_law_723 : decode b_L_law 723 = .ok (.aload_n 2, 1) := by decide +kernel
theorem d_L_law_724 : decode b_L_law 724 = .ok (.invokevirtual 116, 3) := by decide +kernel
theorem d_L_law_727 : decode b_L_law 727 = .ok (.if_icmp .eq 225, 3) := by decide +kernel
theorem d_L_law_730 : decode b_L_law 730 = .ok (.iconst 0, 1) := by decide +kernel
theorem d_L_law_731 : decode b_L_law 731 = .ok (.ireturn, 1) := by decide +kernel
theorem d_L_law_732 : decode b_L_law 732 = .ok (.aload_n 1, 1) := by decide +kernel
theorem d_L_law_733 : decode b_L_law 733 = .ok (.aload_n 0, 1) := by decide +kernel
theorem d_L_law_734 : decode b_L_law 734 = .ok (.iload 4, 2) := by decide +kernel
theorem d_L_law_736 : decode b_L_law 736 = .ok (.iconst 1, 1) := by decide +kernel
theorem d_L_law_737 : decode b_L_law 737 = .ok (.iadd, 1) := by decide +kernel
theorem d_L_law_738 : decode b_L_law 738 = .ok (.iaload, 1) := by decide +kernel
theorem d_L_law_739 : decode b_L_law 739 = .ok (.aload_n 0, 1) := by decide +kernel
theorem d_L_law_740 : decode b_L_law 740 = .ok (.iload 4, 2) := by decide +kernel
theorem d_L_law_742 : decode b_L_law 742 = .ok (.iconst 2, 1) := by decide +kernel
theorem d_L_law_743 : decode b_L_law 743 = .ok (.iadd, 1) := by decide +kernel
theorem d_L_law_744 : decode b_L_law 744 = .ok (.iaload, 1) := by decide +kernel
theorem d_L_law_745 : decode b_L_law 745 = .ok (.aload_n 3, 1) := by decide +kernel
theorem d_L_law_746 : decode b_L_law 746 = .ok (.invokestatic 117, 3) := by decide +kernel
theorem d_L_law_749 : decode b_L_law 749 = .ok (.istore 5, 2) := by decide +kernel
theorem d_L_law_751 : decode b_L_law 751 = .ok (.aload_n 2, 1) := by decide +kernel
theorem d_L_law_752 : decode b_L_law 752 = .ok (.aload_n 0, 1) := by decide +kernel
theorem d_L_law_753 : decode b_L_law 753 = .ok (.iload 4, 2) := by decide +kernel
theorem d_L_law_755 : decode b_L_law 755 = .ok (.iconst 1, 1) := by decide +kernel
theorem d_L_law_756 : decode b_L_law 756 = .ok (.iadd, 1) := by decide +kernel
theorem d_L_law_757 : decode b_L_law 757 = .ok (.iaload, 1) := by decide +kernel
theorem d_L_law_758 : decode b_L_law 758 = .ok (.aload_n 0, 1) := by decide +kernel
theorem d_L_law_759 : decode b_L_law 759 = .ok (.iload 4, 2) := by decide +kernel
theorem d_L_law_761 : decode b_L_law 761 = .ok (.iconst 2, 1) := by decide +kernel
theorem d_L_law_762 : decode b_L_law 762 = .ok (.iadd, 1) := by decide +kernel
theorem d_L_law_763 : decode b_L_law 763 = .ok (.iaload, 1) := by decide +kernel
theorem d_L_law_764 : decode b_L_law 764 = .ok (.invokevirtual 119, 3) := by decide +kernel
theorem d_L_law_767 : decode b_L_law 767 = .ok (.istore 6, 2) := by decide +kernel
theorem d_L_law_769 : decode b_L_law 769 = .ok (.aload_n 2, 1) := by decide +kernel
theorem d_L_law_770 : decode b_L_law 770 = .ok (.invokevirtual 76, 3) := by decide +kernel
theorem d_L_law_773 : decode b_L_law 773 = .ok (.iload 5, 2) := by decide +kernel
theorem d_L_law_775 : decode b_L_law 775 = .ok (.if_icmp .eq 5, 3) := by decide +kernel
theorem d_L_law_778 : decode b_L_law 778 = .ok (.iconst 0, 1) := by decide +kernel
theorem d_L_law_779 : decode b_L_law 779 = .ok (.ireturn, 1) := by decide +kernel
theorem d_L_law_780 : decode b_L_law 780 = .ok (.iload 5, 2) := by decide +kernel
theorem d_L_law_782 : decode b_L_law 782 = .ok (.ifCond .ne 15, 3) := by decide +kernel
theorem d_L_law_785 : decode b_L_law 785 = .ok (.aload_n 3, 1) := by decide +kernel
theorem d_L_law_786 : decode b_L_law 786 = .ok (.iconst 0, 1) := by decide +kernel
theorem d_L_law_787 : decode b_L_law 787 = .ok (.laload, 1) := by decide +kernel
theorem d_L_law_788 : decode b_L_law 788 = .ok (.iload 6, 2) := by decide +kernel
theorem d_L_law_790 : decode b_L_law 790 = .ok (.i2l, 1) := by decide +kernel
theorem d_L_law_791 : decode b_L_law 791 = .ok (.lcmp, 1) := by decide +kernel
theorem d_L_law_792 : decode b_L_law 792 = .ok (.ifCond .eq 5, 3) := by decide +kernel
theorem d_L_law_795 : decode b_L_law 795 = .ok (.iconst 0, 1) := by decide +kernel
theorem d_L_law_796 : decode b_L_law 796 = .ok (.ireturn, 1) := by decide +kernel
theorem d_L_law_797 : decode b_L_law 797 = .ok (.goto 155, 3) := by decide +kernel
theorem d_L_law_800 : decode b_L_law 800 = .ok (.aload_n 1, 1) := by decide +kernel
theorem d_L_law_801 : decode b_L_law 801 = .ok (.aload_n 0, 1) := by decide +kernel
theorem d_L_law_802 : decode b_L_law 802 = .ok (.iload 4, 2) := by decide +kernel
theorem d_L_law_804 : decode b_L_law 804 = .ok (.iconst 1, 1) := by decide +kernel
theorem d_L_law_805 : decode b_L_law 805 = .ok (.iadd, 1) := by decide +kernel
theorem d_L_law_806 : decode b_L_law 806 = .ok (.iaload, 1) := by decide +kernel
theorem d_L_law_807 : decode b_L_law 807 = .ok (.invokestatic 120, 3) := by decide +kernel
theorem d_L_law_810 : decode b_L_law 810 = .ok (.istore 5, 2) := by decide +kernel
theorem d_L_law_812 : decode b_L_law 812 = .ok (.aload_n 2, 1) := by decide +kernel
theorem d_L_law_813 : decode b_L_law 813 = .ok (.aload_n 0, 1) := by decide +kernel
theorem d_L_law_814 : decode b_L_law 814 = .ok (.iload 4, 2) := by decide +kernel
theorem d_L_law_816 : decode b_L_law 816 = .ok (.iconst 1, 1) := by decide +kernel
theorem d_L_law_817 : decode b_L_law 817 = .ok (.iadd, 1) := by decide +kernel
theorem d_L_law_818 : decode b_L_law 818 = .ok (.iaload, 1) := by decide +kernel
theorem d_L_law_819 : decode b_L_law 819 = .ok (.invokevirtual 123, 3) := by decide +kernel
theorem d_L_law_822 : decode b_L_law 822 = .ok (.aload_n 2, 1) := by decide +kernel
theorem d_L_law_823 : decode b_L_law 823 = .ok (.invokevirtual 76, 3) := by decide +kernel
theorem d_L_law_826 : decode b_L_law 826 = .ok (.iload 5, 2) := by decide +kernel
theorem d_L_law_828 : decode b_L_law 828 = .ok (.if_icmp .eq 5, 3) := by decide +kernel
theorem d_L_law_831 : decode b_L_law 831 = .ok (.iconst 0, 1) := by decide +kernel
theorem d_L_law_832 : decode b_L_law 832 = .ok (.ireturn, 1) := by decide +kernel
theorem d_L_law_833 : decode b_L_law 833 = .ok (.goto 119, 3) := by decide +kernel
theorem d_L_law_836 : decode b_L_law 836 = .ok (.aload_n 1, 1) := by decide +kernel
theorem d_L_law_837 : decode b_L_law 837 = .ok (.aload_n 0, 1) := by decide +kernel
theorem d_L_law_838 : decode b_L_law 838 = .ok (.iload 4, 2) := by decide +kernel
theorem d_L_law_840 : decode b_L_law 840 = .ok (.iconst 1, 1) := by decide +kernel
theorem d_L_law_841 : decode b_L_law 841 = .ok (.iadd, 1) := by decide +kernel
theorem d_L_law_842 : decode b_L_law 842 = .ok (.iaload, 1) := by decide +kernel
theorem d_L_law_843 : decode b_L_law 843 = .ok (.aload_n 3, 1) := by decide +kernel
theorem d_L_law_844 : decode b_L_law 844 = .ok (.invokestatic 124, 3) := by decide +kernel
theorem d_L_law_847 : decode b_L_law 847 = .ok (.istore 5, 2) := by decide +kernel
theorem d_L_law_849 : decode b_L_law 849 = .ok (.aload_n 2, 1) := by decide +kernel
theorem d_L_law_850 : decode b_L_law 850 = .ok (.aload_n 0, 1) := by decide +kernel
theorem d_L_law_851 : decode b_L_law 851 = .ok (.iload 4, 2) := by decide +kernel
theorem d_L_law_853 : decode b_L_law 853 = .ok (.iconst 1, 1) := by decide +kernel
theorem d_L_law_854 : decode b_L_law 854 = .ok (.iadd, 1) := by decide +kernel
theorem d_L_law_855 : decode b_L_law 855 = .ok (.iaload, 1) := by decide +kernel
theorem d_L_law_856 : decode b_L_law 856 = .ok (.invokevirtual 126, 3) := by decide +kernel
theorem d_L_law_859 : decode b_L_law 859 = .ok (.istore 6, 2) := by decide +kernel
theorem d_L_law_861 : decode b_L_law 861 = .ok (.aload_n 2, 1) := by decide +kernel
theorem d_L_law_862 : decode b_L_law 862 = .ok (.invokevirtual 76, 3) := by decide +kernel
theorem d_L_law_865 : decode b_L_law 865 = .ok (.iload 5, 2) := by decide +kernel
theorem d_L_law_867 : decode b_L_law 867 = .ok (.if_icmp .eq 5, 3) := by decide +kernel
theorem d_L_law_870 : decode b_L_law 870 = .ok (.iconst 0, 1) := by decide +kernel
theorem d_L_law_871 : decode b_L_law 871 = .ok (.ireturn, 1) := by decide +kernel
theorem d_L_law_872 : decode b_L_law 872 = .ok (.iload 5, 2) := by decide +kernel
theorem d_L_law_874 : decode b_L_law 874 = .ok (.ifCond .ne 15, 3) := by decide +kernel
theorem d_L_law_877 : decode b_L_law 877 = .ok (.aload_n 3, 1) := by decide +kernel
theorem d_L_law_878 : decode b_L_law 878 = .ok (.iconst 0, 1) := by decide +kernel
theorem d_L_law_879 : decode b_L_law 879 = .ok (.laload, 1) := by decide +kernel
theorem d_L_law_880 : decode b_L_law 880 = .ok (.iload 6, 2) := by decide +kernel
theorem d_L_law_882 : decode b_L_law 882 = .ok (.i2l, 1) := by decide +kernel
theorem d_L_law_883 : decode b_L_law 883 = .ok (.lcmp, 1) := by decide +kernel
theorem d_L_law_884 : decode b_L_law 884 = .ok (.ifCond .eq 5, 3) := by decide +kernel
theorem d_L_law_887 : decode b_L_law 887 = .ok (.iconst 0, 1) := by decide +kernel
theorem d_L_law_888 : decode b_L_law 888 = .ok (.ireturn, 1) := by decide +kernel
theorem d_L_law_889 : decode b_L_law 889 = .ok (.goto 63, 3) := by decide +kernel
theorem d_L_law_892 : decode b_L_law 892 = .ok (.aload_n 1, 1) := by decide +kernel
theorem d_L_law_893 : decode b_L_law 893 = .ok (.aload_n 0, 1) := by decide +kernel
theorem d_L_law_894 : decode b_L_law 894 = .ok (.iload 4, 2) := by decide +kernel
theorem d_L_law_896 : decode b_L_law 896 = .ok (.iconst 1, 1) := by decide +kernel
theorem d_L_law_897 : decode b_L_law 897 = .ok (.iadd, 1) := by decide +kernel
theorem d_L_law_898 : decode b_L_law 898 = .ok (.iaload, 1) := by decide +kernel
theorem d_L_law_899 : decode b_L_law 899 = .ok (.invokestatic 127, 3) := by decide +kernel
theorem d_L_law_902 : decode b_L_law 902 = .ok (.istore 5, 2) := by decide +kernel
theorem d_L_law_904 : decode b_L_law 904 = .ok (.aload_n 2, 1) := by decide +kernel
theorem d_L_law_905 : decode b_L_law 905 = .ok (.aload_n 0, 1) := by decide +kernel
theorem d_L_law_906 : decode b_L_law 906 = .ok (.iload 4, 2) := by decide +kernel
theorem d_L_law_908 : decode b_L_law 908 = .ok (.iconst 1, 1) := by decide +kernel
theorem d_L_law_909 : decode b_L_law 909 = .ok (.iadd, 1) := by decide +kernel
theorem d_L_law_910 : decode b_L_law 910 = .ok (.iaload, 1) := by decide +kernel
theorem d_L_law_911 : decode b_L_law 911 = .ok (.invokevirtual 129, 3) := by decide +kernel
theorem d_L_law_914 : decode b_L_law 914 = .ok (.aload_n 2, 1) := by decide +kernel
theorem d_L_law_915 : decode b_L_law 915 = .ok (.invokevirtual 76, 3) := by decide +kernel
theorem d_L_law_918 : decode b_L_law 918 = .ok (.iload 5, 2) := by decide +kernel
theorem d_L_law_920 : decode b_L_law 920 = .ok (.if_icmp .eq 5, 3) := by decide +kernel
theorem d_L_law_923 : decode b_L_law 923 = .ok (.iconst 0, 1) := by decide +kernel
theorem d_L_law_924 : decode b_L_law 924 = .ok (.ireturn, 1) := by decide +kernel
theorem d_L_law_925 : decode b_L_law 925 = .ok (.goto 27, 3) := by decide +kernel
theorem d_L_law_928 : decode b_L_law 928 = .ok (.aload_n 1, 1) := by decide +kernel
theorem d_L_law_929 : decode b_L_law 929 = .ok (.invokestatic 130, 3) := by decide +kernel
theorem d_L_law_932 : decode b_L_law 932 = .ok (.istore 5, 2) := by decide +kernel
theorem d_L_law_934 : decode b_L_law 934 = .ok (.aload_n 2, 1) := by decide +kernel
theorem d_L_law_935 : decode b_L_law 935 = .ok (.invokevirtual 133, 3) := by decide +kernel
theorem d_L_law_938 : decode b_L_law 938 = .ok (.aload_n 2, 1) := by decide +kernel
theorem d_L_law_939 : decode b_L_law 939 = .ok (.invokevirtual 76, 3) := by decide +kernel
theorem d_L_law_942 : decode b_L_law 942 = .ok (.iload 5, 2) := by decide +kernel
theorem d_L_law_944 : decode b_L_law 944 = .ok (.if_icmp .eq 5, 3) := by decide +kernel
theorem d_L_law_947 : decode b_L_law 947 = .ok (.iconst 0, 1) := by decide +kernel
theorem d_L_law_948 : decode b_L_law 948 = .ok (.ireturn, 1) := by decide +kernel
theorem d_L_law_949 : decode b_L_law 949 = .ok (.goto 3, 3) := by decide +kernel
theorem d_L_law_952 : decode b_L_law 952 = .ok (.iinc 4 6, 3) := by decide +kernel
theorem d_L_law_955 : decode b_L_law 955 = .ok (.goto (-932), 3) := by decide +kernel
theorem d_L_law_958 : decode b_L_law 958 = .ok (.iconst 1, 1) := by decide +kernel
theorem d_L_law_959 : decode b_L_law 959 = .ok (.ireturn, 1) := by decide +kernel
