theorem dL_board_0 : decode cL_board 0 = .ok (.aload_n 2, 1) := by decide +kernel
theorem dL_board_1 : decode cL_board 1 = .ok (.iconst 0, 1) := by decide +kernel
theorem dL_board_2 : decode cL_board 2 = .ok (.aload_n 0, 1) := by decide +kernel
theorem dL_board_3 : decode cL_board 3 = .ok (.iload_n 1, 1) := by decide +kernel
theorem dL_board_4 : decode cL_board 4 = .ok (.invokevirtual 7, 3) := by decide +kernel
theorem dL_board_7 : decode cL_board 7 = .ok (.i2l, 1) := by decide +kernel
theorem dL_board_8 : decode cL_board 8 = .ok (.lastore, 1) := by decide +kernel
theorem dL_board_9 : decode cL_board 9 = .ok (.goto 6, 3) := by decide +kernel
theorem dL_board_12 : decode cL_board 12 = .ok (.astore_n 3, 1) := by decide +kernel
theorem dL_board_13 : decode cL_board 13 = .ok (.iconst 1, 1) := by decide +kernel
theorem dL_board_14 : decode cL_board 14 = .ok (.ireturn, 1) := by decide +kernel
theorem dL_board_15 : decode cL_board 15 = .ok (.iconst 0, 1) := by decide +kernel
theorem dL_board_16 : decode cL_board 16 = .ok (.ireturn, 1) := by decide +kernel
theorem dL_member_0 : decode cL_member 0 = .ok (.aload_n 3, 1) := by decide +kernel
theorem dL_member_1 : decode cL_member 1 = .ok (.iconst 0, 1) := by decide +kernel
theorem dL_member_2 : decode cL_member 2 = .ok (.aload_n 0, 1) := by decide +kernel
theorem dL_member_3 : decode cL_member 3 = .ok (.iload_n 1, 1) := by decide +kernel
theorem dL_member_4 : decode cL_member 4 = .ok (.iload_n 2, 1) := by decide +kernel
theorem dL_member_5 : decode cL_member 5 = .ok (.invokevirtual 15, 3) := by decide +kernel
theorem dL_member_8 : decode cL_member 8 = .ok (.i2l, 1) := by decide +kernel
theorem dL_member_9 : decode cL_member 9 = .ok (.lastore, 1) := by decide +kernel
theorem dL_member_10 : decode cL_member 10 = .ok (.goto 11, 3) := by decide +kernel
theorem dL_member_13 : decode cL_member 13 = .ok (.astore 4, 2) := by decide +kernel
theorem dL_member_15 : decode cL_member 15 = .ok (.iconst 1, 1) := by decide +kernel
theorem dL_member_16 : decode cL_member 16 = .ok (.ireturn, 1) := by decide +kernel
theorem dL_member_17 : decode cL_member 17 = .ok (.astore 4, 2) := by decide +kernel
theorem dL_member_19 : decode cL_member 19 = .ok (.iconst 2, 1) := by decide +kernel
theorem dL_member_20 : decode cL_member 20 = .ok (.ireturn, 1) := by decide +kernel
theorem dL_member_21 : decode cL_member 21 = .ok (.iconst 0, 1) := by decide +kernel
theorem dL_member_22 : decode cL_member 22 = .ok (.ireturn, 1) := by decide +kernel
theorem dL_drags_0 : decode cL_drags 0 = .ok (.aload_n 2, 1) := by decide +kernel
theorem dL_drags_1 : decode cL_drags 1 = .ok (.iconst 0, 1) := by decide +kernel
theorem dL_drags_2 : decode cL_drags 2 = .ok (.aload_n 0, 1) := by decide +kernel
theorem dL_drags_3 : decode cL_drags 3 = .ok (.iload_n 1, 1) := by decide +kernel
theorem dL_drags_4 : decode cL_drags 4 = .ok (.invokevirtual 21, 3) := by decide +kernel
theorem dL_drags_7 : decode cL_drags 7 = .ok (.i2l, 1) := by decide +kernel
theorem dL_drags_8 : decode cL_drags 8 = .ok (.lastore, 1) := by decide +kernel
theorem dL_drags_9 : decode cL_drags 9 = .ok (.goto 6, 3) := by decide +kernel
theorem dL_drags_12 : decode cL_drags 12 = .ok (.astore_n 3, 1) := by decide +kernel
theorem dL_drags_13 : decode cL_drags 13 = .ok (.iconst 1, 1) := by decide +kernel
theorem dL_drags_14 : decode cL_drags 14 = .ok (.ireturn, 1) := by decide +kernel
theorem dL_drags_15 : decode cL_drags 15 = .ok (.iconst 0, 1) := by decide +kernel
theorem dL_drags_16 : decode cL_drags 16 = .ok (.ireturn, 1) := by decide +kernel
theorem dL_goes_0 : decode cL_goes 0 = .ok (.aload_n 2, 1) := by decide +kernel
theorem dL_goes_1 : decode cL_goes 1 = .ok (.iconst 0, 1) := by decide +kernel
theorem dL_goes_2 : decode cL_goes 2 = .ok (.aload_n 0, 1) := by decide +kernel
theorem dL_goes_3 : decode cL_goes 3 = .ok (.iload_n 1, 1) := by decide +kernel
theorem dL_goes_4 : decode cL_goes 4 = .ok (.invokevirtual 24, 3) := by decide +kernel
theorem dL_goes_7 : decode cL_goes 7 = .ok (.i2l, 1) := by decide +kernel
theorem dL_goes_8 : decode cL_goes 8 = .ok (.lastore, 1) := by decide +kernel
theorem dL_goes_9 : decode cL_goes 9 = .ok (.goto 6, 3) := by decide +kernel
theorem dL_goes_12 : decode cL_goes 12 = .ok (.astore_n 3, 1) := by decide +kernel
theorem dL_goes_13 : decode cL_goes 13 = .ok (.iconst 1, 1) := by decide +kernel
theorem dL_goes_14 : decode cL_goes 14 = .ok (.ireturn, 1) := by decide +kernel
theorem dL_goes_15 : decode cL_goes 15 = .ok (.iconst 0, 1) := by decide +kernel
theorem dL_goes_16 : decode cL_goes 16 = .ok (.ireturn, 1) := by decide +kernel
theorem dL_minutes_0 : decode cL_minutes 0 = .ok (.aload_n 2, 1) := by decide +kernel
theorem dL_minutes_1 : decode cL_minutes 1 = .ok (.iconst 0, 1) := by decide +kernel
theorem dL_minutes_2 : decode cL_minutes 2 = .ok (.aload_n 0, 1) := by decide +kernel
theorem dL_minutes_3 : decode cL_minutes 3 = .ok (.iload_n 1, 1) := by decide +kernel
theorem dL_minutes_4 : decode cL_minutes 4 = .ok (.invokevirtual 27, 3) := by decide +kernel
theorem dL_minutes_7 : decode cL_minutes 7 = .ok (.i2l, 1) := by decide +kernel
theorem dL_minutes_8 : decode cL_minutes 8 = .ok (.lastore, 1) := by decide +kernel
theorem dL_minutes_9 : decode cL_minutes 9 = .ok (.goto 6, 3) := by decide +kernel
theorem dL_minutes_12 : decode cL_minutes 12 = .ok (.astore_n 3, 1) := by decide +kernel
theorem dL_minutes_13 : decode cL_minutes 13 = .ok (.iconst 1, 1) := by decide +kernel
theorem dL_minutes_14 : decode cL_minutes 14 = .ok (.ireturn, 1) := by decide +kernel
theorem dL_minutes_15 : decode cL_minutes 15 = .ok (.iconst 0, 1) := by decide +kernel
theorem dL_minutes_16 : decode cL_minutes 16 = .ok (.ireturn, 1) := by decide +kernel
theorem dL_undo_0 : decode cL_undo 0 = .ok (.aload_n 2, 1) := by decide +kernel
theorem dL_undo_1 : decode cL_undo 1 = .ok (.iconst 0, 1) := by decide +kernel
theorem dL_undo_2 : decode cL_undo 2 = .ok (.aload_n 0, 1) := by decide +kernel
theorem dL_undo_3 : decode cL_undo 3 = .ok (.iload_n 1, 1) := by decide +kernel
theorem dL_undo_4 : decode cL_undo 4 = .ok (.invokevirtual 30, 3) := by decide +kernel
theorem dL_undo_7 : decode cL_undo 7 = .ok (.i2l, 1) := by decide +kernel
theorem dL_undo_8 : decode cL_undo 8 = .ok (.lastore, 1) := by decide +kernel
theorem dL_undo_9 : decode cL_undo 9 = .ok (.goto 6, 3) := by decide +kernel
theorem dL_undo_12 : decode cL_undo 12 = .ok (.astore_n 3, 1) := by decide +kernel
theorem dL_undo_13 : decode cL_undo 13 = .ok (.iconst 1, 1) := by decide +kernel
theorem dL_undo_14 : decode cL_undo 14 = .ok (.ireturn, 1) := by decide +kernel
theorem dL_undo_15 : decode cL_undo 15 = .ok (.iconst 0, 1) := by decide +kernel
theorem dL_undo_16 : decode cL_undo 16 = .ok (.ireturn, 1) := by decide +kernel
theorem dL_judge_0 : decode cL_judge 0 = .ok (.aload_n 3, 1) := by decide +kernel
theorem dL_judge_1 : decode cL_judge 1 = .ok (.iconst 0, 1) := by decide +kernel
theorem dL_judge_2 : decode cL_judge 2 = .ok (.aload_n 0, 1) := by decide +kernel
theorem dL_judge_3 : decode cL_judge 3 = .ok (.iload_n 1, 1) := by decide +kernel
theorem dL_judge_4 : decode cL_judge 4 = .ok (.iload_n 2, 1) := by decide +kernel
theorem dL_judge_5 : decode cL_judge 5 = .ok (.invokevirtual 33, 3) := by decide +kernel
theorem dL_judge_8 : decode cL_judge 8 = .ok (.i2l, 1) := by decide +kernel
theorem dL_judge_9 : decode cL_judge 9 = .ok (.lastore, 1) := by decide +kernel
theorem dL_judge_10 : decode cL_judge 10 = .ok (.goto 15, 3) := by decide +kernel
theorem dL_judge_13 : decode cL_judge 13 = .ok (.astore 4, 2) := by decide +kernel
theorem dL_judge_15 : decode cL_judge 15 = .ok (.iconst 1, 1) := by decide +kernel
theorem dL_judge_16 : decode cL_judge 16 = .ok (.ireturn, 1) := by decide +kernel
theorem dL_judge_17 : decode cL_judge 17 = .ok (.astore 4, 2) := by decide +kernel
theorem dL_judge_19 : decode cL_judge 19 = .ok (.iconst 2, 1) := by decide +kernel
theorem dL_judge_20 : decode cL_judge 20 = .ok (.ireturn, 1) := by decide +kernel
theorem dL_judge_21 : decode cL_judge 21 = .ok (.astore 4, 2) := by decide +kernel
theorem dL_judge_23 : decode cL_judge 23 = .ok (.iconst 3, 1) := by decide +kernel
theorem dL_judge_24 : decode cL_judge 24 = .ok (.ireturn, 1) := by decide +kernel
theorem dL_judge_25 : decode cL_judge 25 = .ok (.iconst 0, 1) := by decide +kernel
theorem dL_judge_26 : decode cL_judge 26 = .ok (.ireturn, 1) := by decide +kernel
theorem dL_perform_0 : decode cL_perform 0 = .ok (.aload_n 2, 1) := by decide +kernel
theorem dL_perform_1 : decode cL_perform 1 = .ok (.iconst 0, 1) := by decide +kernel
theorem dL_perform_2 : decode cL_perform 2 = .ok (.aload_n 0, 1) := by decide +kernel
theorem dL_perform_3 : decode cL_perform 3 = .ok (.iload_n 1, 1) := by decide +kernel
theorem dL_perform_4 : decode cL_perform 4 = .ok (.invokevirtual 38, 3) := by decide +kernel
theorem dL_perform_7 : decode cL_perform 7 = .ok (.i2l, 1) := by decide +kernel
theorem dL_perform_8 : decode cL_perform 8 = .ok (.lastore, 1) := by decide +kernel
theorem dL_perform_9 : decode cL_perform 9 = .ok (.goto 9, 3) := by decide +kernel
theorem dL_perform_12 : decode cL_perform 12 = .ok (.astore_n 3, 1) := by decide +kernel
theorem dL_perform_13 : decode cL_perform 13 = .ok (.iconst 1, 1) := by decide +kernel
theorem dL_perform_14 : decode cL_perform 14 = .ok (.ireturn, 1) := by decide +kernel
theorem dL_perform_15 : decode cL_perform 15 = .ok (.astore_n 3, 1) := by decide +kernel
theorem dL_perform_16 : decode cL_perform 16 = .ok (.iconst 2, 1) := by decide +kernel
theorem dL_perform_17 : decode cL_perform 17 = .ok (.ireturn, 1) := by decide +kernel
theorem dL_perform_18 : decode cL_perform 18 = .ok (.iconst 0, 1) := by decide +kernel
theorem dL_perform_19 : decode cL_perform 19 = .ok (.ireturn, 1) := by decide +kernel
theorem dL_session_0 : decode cL_session 0 = .ok (.aload_n 3, 1) := by decide +kernel
theorem dL_session_1 : decode cL_session 1 = .ok (.iconst 0, 1) := by decide +kernel
theorem dL_session_2 : decode cL_session 2 = .ok (.aload_n 0, 1) := by decide +kernel
theorem dL_session_3 : decode cL_session 3 = .ok (.iload_n 1, 1) := by decide +kernel
theorem dL_session_4 : decode cL_session 4 = .ok (.iload_n 2, 1) := by decide +kernel
theorem dL_session_5 : decode cL_session 5 = .ok (.invokevirtual 41, 3) := by decide +kernel
theorem dL_session_8 : decode cL_session 8 = .ok (.i2l, 1) := by decide +kernel
theorem dL_session_9 : decode cL_session 9 = .ok (.lastore, 1) := by decide +kernel
theorem dL_session_10 : decode cL_session 10 = .ok (.goto 7, 3) := by decide +kernel
theorem dL_session_13 : decode cL_session 13 = .ok (.astore 4, 2) := by decide +kernel
theorem dL_session_15 : decode cL_session 15 = .ok (.iconst 1, 1) := by decide +kernel
theorem dL_session_16 : decode cL_session 16 = .ok (.ireturn, 1) := by decide +kernel
theorem dL_session_17 : decode cL_session 17 = .ok (.iconst 0, 1) := by decide +kernel
theorem dL_session_18 : decode cL_session 18 = .ok (.ireturn, 1) := by decide +kernel
theorem dL_cheapest_0 : decode cL_cheapest 0 = .ok (.aload_n 3, 1) := by decide +kernel
theorem dL_cheapest_1 : decode cL_cheapest 1 = .ok (.iconst 0, 1) := by decide +kernel
theorem dL_cheapest_2 : decode cL_cheapest 2 = .ok (.aload_n 0, 1) := by decide +kernel
theorem dL_cheapest_3 : decode cL_cheapest 3 = .ok (.iload_n 1, 1) := by decide +kernel
theorem dL_cheapest_4 : decode cL_cheapest 4 = .ok (.iload_n 2, 1) := by decide +kernel
theorem dL_cheapest_5 : decode cL_cheapest 5 = .ok (.invokevirtual 44, 3) := by decide +kernel
theorem dL_cheapest_8 : decode cL_cheapest 8 = .ok (.i2l, 1) := by decide +kernel
theorem dL_cheapest_9 : decode cL_cheapest 9 = .ok (.lastore, 1) := by decide +kernel
theorem dL_cheapest_10 : decode cL_cheapest 10 = .ok (.goto 15, 3) := by decide +kernel
theorem dL_cheapest_13 : decode cL_cheapest 13 = .ok (.astore 4, 2) := by decide +kernel
theorem dL_cheapest_15 : decode cL_cheapest 15 = .ok (.iconst 1, 1) := by decide +kernel
theorem dL_cheapest_16 : decode cL_cheapest 16 = .ok (.ireturn, 1) := by decide +kernel
theorem dL_cheapest_17 : decode cL_cheapest 17 = .ok (.astore 4, 2) := by decide +kernel
theorem dL_cheapest_19 : decode cL_cheapest 19 = .ok (.iconst 2, 1) := by decide +kernel
theorem dL_cheapest_20 : decode cL_cheapest 20 = .ok (.ireturn, 1) := by decide +kernel
theorem dL_cheapest_21 : decode cL_cheapest 21 = .ok (.astore 4, 2) := by decide +kernel
theorem dL_cheapest_23 : decode cL_cheapest 23 = .ok (.iconst 3, 1) := by decide +kernel
theorem dL_cheapest_24 : decode cL_cheapest 24 = .ok (.ireturn, 1) := by decide +kernel
theorem dL_cheapest_25 : decode cL_cheapest 25 = .ok (.iconst 0, 1) := by decide +kernel
theorem dL_cheapest_26 : decode cL_cheapest 26 = .ok (.ireturn, 1) := by decide +kernel
theorem dL_ways_0 : decode cL_ways 0 = .ok (.aload_n 2, 1) := by decide +kernel
theorem dL_ways_1 : decode cL_ways 1 = .ok (.iconst 0, 1) := by decide +kernel
theorem dL_ways_2 : decode cL_ways 2 = .ok (.aload_n 0, 1) := by decide +kernel
theorem dL_ways_3 : decode cL_ways 3 = .ok (.iload_n 1, 1) := by decide +kernel
theorem dL_ways_4 : decode cL_ways 4 = .ok (.invokevirtual 47, 3) := by decide +kernel
theorem dL_ways_7 : decode cL_ways 7 = .ok (.i2l, 1) := by decide +kernel
theorem dL_ways_8 : decode cL_ways 8 = .ok (.lastore, 1) := by decide +kernel
theorem dL_ways_9 : decode cL_ways 9 = .ok (.goto 12, 3) := by decide +kernel
theorem dL_ways_12 : decode cL_ways 12 = .ok (.astore_n 3, 1) := by decide +kernel
theorem dL_ways_13 : decode cL_ways 13 = .ok (.iconst 1, 1) := by decide +kernel
theorem dL_ways_14 : decode cL_ways 14 = .ok (.ireturn, 1) := by decide +kernel
theorem dL_ways_15 : decode cL_ways 15 = .ok (.astore_n 3, 1) := by decide +kernel
theorem dL_ways_16 : decode cL_ways 16 = .ok (.iconst 2, 1) := by decide +kernel
theorem dL_ways_17 : decode cL_ways 17 = .ok (.ireturn, 1) := by decide +kernel
theorem dL_ways_18 : decode cL_ways 18 = .ok (.astore_n 3, 1) := by decide +kernel
theorem dL_ways_19 : decode cL_ways 19 = .ok (.iconst 3, 1) := by decide +kernel
theorem dL_ways_20 : decode cL_ways 20 = .ok (.ireturn, 1) := by decide +kernel
theorem dL_ways_21 : decode cL_ways 21 = .ok (.iconst 0, 1) := by decide +kernel
theorem dL_ways_22 : decode cL_ways 22 = .ok (.ireturn, 1) := by decide +kernel
theorem dL_throne_0 : decode cL_throne 0 = .ok (.aload_n 3, 1) := by decide +kernel
theorem dL_throne_1 : decode cL_throne 1 = .ok (.iconst 0, 1) := by decide +kernel
theorem dL_throne_2 : decode cL_throne 2 = .ok (.aload_n 0, 1) := by decide +kernel
theorem dL_throne_3 : decode cL_throne 3 = .ok (.iload_n 1, 1) := by decide +kernel
theorem dL_throne_4 : decode cL_throne 4 = .ok (.iload_n 2, 1) := by decide +kernel
theorem dL_throne_5 : decode cL_throne 5 = .ok (.invokevirtual 50, 3) := by decide +kernel
theorem dL_throne_8 : decode cL_throne 8 = .ok (.i2l, 1) := by decide +kernel
theorem dL_throne_9 : decode cL_throne 9 = .ok (.lastore, 1) := by decide +kernel
theorem dL_throne_10 : decode cL_throne 10 = .ok (.goto 11, 3) := by decide +kernel
theorem dL_throne_13 : decode cL_throne 13 = .ok (.astore 4, 2) := by decide +kernel
theorem dL_throne_15 : decode cL_throne 15 = .ok (.iconst 1, 1) := by decide +kernel
theorem dL_throne_16 : decode cL_throne 16 = .ok (.ireturn, 1) := by decide +kernel
theorem dL_throne_17 : decode cL_throne 17 = .ok (.astore 4, 2) := by decide +kernel
theorem dL_throne_19 : decode cL_throne 19 = .ok (.iconst 2, 1) := by decide +kernel
theorem dL_throne_20 : decode cL_throne 20 = .ok (.ireturn, 1) := by decide +kernel
theorem dL_throne_21 : decode cL_throne 21 = .ok (.iconst 0, 1) := by decide +kernel
theorem dL_throne_22 : decode cL_throne 22 = .ok (.ireturn, 1) := by decide +kernel
theorem dL_power_0 : decode cL_power 0 = .ok (.aload_n 2, 1) := by decide +kernel
theorem dL_power_1 : decode cL_power 1 = .ok (.iconst 0, 1) := by decide +kernel
theorem dL_power_2 : decode cL_power 2 = .ok (.aload_n 0, 1) := by decide +kernel
theorem dL_power_3 : decode cL_power 3 = .ok (.iload_n 1, 1) := by decide +kernel
theorem dL_power_4 : decode cL_power 4 = .ok (.invokevirtual 53, 3) := by decide +kernel
theorem dL_power_7 : decode cL_power 7 = .ok (.i2l, 1) := by decide +kernel
theorem dL_power_8 : decode cL_power 8 = .ok (.lastore, 1) := by decide +kernel
theorem dL_power_9 : decode cL_power 9 = .ok (.goto 6, 3) := by decide +kernel
theorem dL_power_12 : decode cL_power 12 = .ok (.astore_n 3, 1) := by decide +kernel
theorem dL_power_13 : decode cL_power 13 = .ok (.iconst 1, 1) := by decide +kernel
theorem dL_power_14 : decode cL_power 14 = .ok (.ireturn, 1) := by decide +kernel
theorem dL_power_15 : decode cL_power 15 = .ok (.iconst 0, 1) := by decide +kernel
theorem dL_power_16 : decode cL_power 16 = .ok (.ireturn, 1) := by decide +kernel
theorem dL_motion_0 : decode cL_motion 0 = .ok (.aload_n 2, 1) := by decide +kernel
theorem dL_motion_1 : decode cL_motion 1 = .ok (.iconst 0, 1) := by decide +kernel
theorem dL_motion_2 : decode cL_motion 2 = .ok (.aload_n 0, 1) := by decide +kernel
theorem dL_motion_3 : decode cL_motion 3 = .ok (.iload_n 1, 1) := by decide +kernel
theorem dL_motion_4 : decode cL_motion 4 = .ok (.invokevirtual 56, 3) := by decide +kernel
theorem dL_motion_7 : decode cL_motion 7 = .ok (.i2l, 1) := by decide +kernel
theorem dL_motion_8 : decode cL_motion 8 = .ok (.lastore, 1) := by decide +kernel
theorem dL_motion_9 : decode cL_motion 9 = .ok (.goto 6, 3) := by decide +kernel
theorem dL_motion_12 : decode cL_motion 12 = .ok (.astore_n 3, 1) := by decide +kernel
theorem dL_motion_13 : decode cL_motion 13 = .ok (.iconst 1, 1) := by decide +kernel
theorem dL_motion_14 : decode cL_motion 14 = .ok (.ireturn, 1) := by decide +kernel
theorem dL_motion_15 : decode cL_motion 15 = .ok (.iconst 0, 1) := by decide +kernel
theorem dL_motion_16 : decode cL_motion 16 = .ok (.ireturn, 1) := by decide +kernel
theorem dL_helps_0 : decode cL_helps 0 = .ok (.aload_n 3, 1) := by decide +kernel
theorem dL_helps_1 : decode cL_helps 1 = .ok (.iconst 0, 1) := by decide +kernel
theorem dL_helps_2 : decode cL_helps 2 = .ok (.aload_n 0, 1) := by decide +kernel
theorem dL_helps_3 : decode cL_helps 3 = .ok (.iload_n 1, 1) := by decide +kernel
theorem dL_helps_4 : decode cL_helps 4 = .ok (.iload_n 2, 1) := by decide +kernel
theorem dL_helps_5 : decode cL_helps 5 = .ok (.invokevirtual 59, 3) := by decide +kernel
theorem dL_helps_8 : decode cL_helps 8 = .ok (.i2l, 1) := by decide +kernel
theorem dL_helps_9 : decode cL_helps 9 = .ok (.lastore, 1) := by decide +kernel
theorem dL_helps_10 : decode cL_helps 10 = .ok (.goto 11, 3) := by decide +kernel
theorem dL_helps_13 : decode cL_helps 13 = .ok (.astore 4, 2) := by decide +kernel
theorem dL_helps_15 : decode cL_helps 15 = .ok (.iconst 1, 1) := by decide +kernel
theorem dL_helps_16 : decode cL_helps 16 = .ok (.ireturn, 1) := by decide +kernel
theorem dL_helps_17 : decode cL_helps 17 = .ok (.astore 4, 2) := by decide +kernel
theorem dL_helps_19 : decode cL_helps 19 = .ok (.iconst 2, 1) := by decide +kernel
theorem dL_helps_20 : decode cL_helps 20 = .ok (.ireturn, 1) := by decide +kernel
theorem dL_helps_21 : decode cL_helps 21 = .ok (.iconst 0, 1) := by decide +kernel
theorem dL_helps_22 : decode cL_helps 22 = .ok (.ireturn, 1) := by decide +kernel
theorem dL_vetoes_0 : decode cL_vetoes 0 = .ok (.aload_n 2, 1) := by decide +kernel
theorem dL_vetoes_1 : decode cL_vetoes 1 = .ok (.iconst 0, 1) := by decide +kernel
theorem dL_vetoes_2 : decode cL_vetoes 2 = .ok (.aload_n 0, 1) := by decide +kernel
theorem dL_vetoes_3 : decode cL_vetoes 3 = .ok (.iload_n 1, 1) := by decide +kernel
theorem dL_vetoes_4 : decode cL_vetoes 4 = .ok (.invokevirtual 62, 3) := by decide +kernel
theorem dL_vetoes_7 : decode cL_vetoes 7 = .ok (.i2l, 1) := by decide +kernel
theorem dL_vetoes_8 : decode cL_vetoes 8 = .ok (.lastore, 1) := by decide +kernel
theorem dL_vetoes_9 : decode cL_vetoes 9 = .ok (.goto 6, 3) := by decide +kernel
theorem dL_vetoes_12 : decode cL_vetoes 12 = .ok (.astore_n 3, 1) := by decide +kernel
theorem dL_vetoes_13 : decode cL_vetoes 13 = .ok (.iconst 1, 1) := by decide +kernel
theorem dL_vetoes_14 : decode cL_vetoes 14 = .ok (.ireturn, 1) := by decide +kernel
theorem dL_vetoes_15 : decode cL_vetoes 15 = .ok (.iconst 0, 1) := by decide +kernel
theorem dL_vetoes_16 : decode cL_vetoes 16 = .ok (.ireturn, 1) := by decide +kernel
theorem dL_knees_0 : decode cL_knees 0 = .ok (.aload_n 2, 1) := by decide +kernel
theorem dL_knees_1 : decode cL_knees 1 = .ok (.iconst 0, 1) := by decide +kernel
theorem dL_knees_2 : decode cL_knees 2 = .ok (.aload_n 0, 1) := by decide +kernel
theorem dL_knees_3 : decode cL_knees 3 = .ok (.iload_n 1, 1) := by decide +kernel
theorem dL_knees_4 : decode cL_knees 4 = .ok (.invokevirtual 65, 3) := by decide +kernel
theorem dL_knees_7 : decode cL_knees 7 = .ok (.i2l, 1) := by decide +kernel
theorem dL_knees_8 : decode cL_knees 8 = .ok (.lastore, 1) := by decide +kernel
theorem dL_knees_9 : decode cL_knees 9 = .ok (.goto 6, 3) := by decide +kernel
theorem dL_knees_12 : decode cL_knees 12 = .ok (.astore_n 3, 1) := by decide +kernel
theorem dL_knees_13 : decode cL_knees 13 = .ok (.iconst 1, 1) := by decide +kernel
theorem dL_knees_14 : decode cL_knees 14 = .ok (.ireturn, 1) := by decide +kernel
theorem dL_knees_15 : decode cL_knees 15 = .ok (.iconst 0, 1) := by decide +kernel
theorem dL_knees_16 : decode cL_knees 16 = .ok (.ireturn, 1) := by decide +kernel
theorem dL_settles_0 : decode cL_settles 0 = .ok (.aload_n 2, 1) := by decide +kernel
theorem dL_settles_1 : decode cL_settles 1 = .ok (.iconst 0, 1) := by decide +kernel
theorem dL_settles_2 : decode cL_settles 2 = .ok (.aload_n 0, 1) := by decide +kernel
theorem dL_settles_3 : decode cL_settles 3 = .ok (.iload_n 1, 1) := by decide +kernel
theorem dL_settles_4 : decode cL_settles 4 = .ok (.invokevirtual 68, 3) := by decide +kernel
theorem dL_settles_7 : decode cL_settles 7 = .ok (.i2l, 1) := by decide +kernel
theorem dL_settles_8 : decode cL_settles 8 = .ok (.lastore, 1) := by decide +kernel
theorem dL_settles_9 : decode cL_settles 9 = .ok (.goto 6, 3) := by decide +kernel
theorem dL_settles_12 : decode cL_settles 12 = .ok (.astore_n 3, 1) := by decide +kernel
theorem dL_settles_13 : decode cL_settles 13 = .ok (.iconst 1, 1) := by decide +kernel
theorem dL_settles_14 : decode cL_settles 14 = .ok (.ireturn, 1) := by decide +kernel
theorem dL_settles_15 : decode cL_settles 15 = .ok (.iconst 0, 1) := by decide +kernel
theorem dL_settles_16 : decode cL_settles 16 = .ok (.ireturn, 1) := by decide +kernel
theorem dL_chairIn_0 : decode cL_chairIn 0 = .ok (.aload_n 2, 1) := by decide +kernel
theorem dL_chairIn_1 : decode cL_chairIn 1 = .ok (.iconst 0, 1) := by decide +kernel
theorem dL_chairIn_2 : decode cL_chairIn 2 = .ok (.aload_n 0, 1) := by decide +kernel
theorem dL_chairIn_3 : decode cL_chairIn 3 = .ok (.iload_n 1, 1) := by decide +kernel
theorem dL_chairIn_4 : decode cL_chairIn 4 = .ok (.invokevirtual 71, 3) := by decide +kernel
theorem dL_chairIn_7 : decode cL_chairIn 7 = .ok (.i2l, 1) := by decide +kernel
theorem dL_chairIn_8 : decode cL_chairIn 8 = .ok (.lastore, 1) := by decide +kernel
theorem dL_chairIn_9 : decode cL_chairIn 9 = .ok (.goto 6, 3) := by decide +kernel
theorem dL_chairIn_12 : decode cL_chairIn 12 = .ok (.astore_n 3, 1) := by decide +kernel
theorem dL_chairIn_13 : decode cL_chairIn 13 = .ok (.iconst 1, 1) := by decide +kernel
theorem dL_chairIn_14 : decode cL_chairIn 14 = .ok (.ireturn, 1) := by decide +kernel
theorem dL_chairIn_15 : decode cL_chairIn 15 = .ok (.iconst 0, 1) := by decide +kernel
theorem dL_chairIn_16 : decode cL_chairIn 16 = .ok (.ireturn, 1) := by decide +kernel
theorem dL_aimIn_0 : decode cL_aimIn 0 = .ok (.aload_n 3, 1) := by decide +kernel
theorem dL_aimIn_1 : decode cL_aimIn 1 = .ok (.iconst 0, 1) := by decide +kernel
theorem dL_aimIn_2 : decode cL_aimIn 2 = .ok (.aload_n 0, 1) := by decide +kernel
theorem dL_aimIn_3 : decode cL_aimIn 3 = .ok (.iload_n 1, 1) := by decide +kernel
theorem dL_aimIn_4 : decode cL_aimIn 4 = .ok (.iload_n 2, 1) := by decide +kernel
theorem dL_aimIn_5 : decode cL_aimIn 5 = .ok (.invokevirtual 74, 3) := by decide +kernel
theorem dL_aimIn_8 : decode cL_aimIn 8 = .ok (.i2l, 1) := by decide +kernel
theorem dL_aimIn_9 : decode cL_aimIn 9 = .ok (.lastore, 1) := by decide +kernel
theorem dL_aimIn_10 : decode cL_aimIn 10 = .ok (.goto 11, 3) := by decide +kernel
theorem dL_aimIn_13 : decode cL_aimIn 13 = .ok (.astore 4, 2) := by decide +kernel
theorem dL_aimIn_15 : decode cL_aimIn 15 = .ok (.iconst 1, 1) := by decide +kernel
theorem dL_aimIn_16 : decode cL_aimIn 16 = .ok (.ireturn, 1) := by decide +kernel
theorem dL_aimIn_17 : decode cL_aimIn 17 = .ok (.astore 4, 2) := by decide +kernel
theorem dL_aimIn_19 : decode cL_aimIn 19 = .ok (.iconst 2, 1) := by decide +kernel
theorem dL_aimIn_20 : decode cL_aimIn 20 = .ok (.ireturn, 1) := by decide +kernel
theorem dL_aimIn_21 : decode cL_aimIn 21 = .ok (.iconst 0, 1) := by decide +kernel
theorem dL_aimIn_22 : decode cL_aimIn 22 = .ok (.ireturn, 1) := by decide +kernel
theorem dL_reign_0 : decode cL_reign 0 = .ok (.aload_n 3, 1) := by decide +kernel
theorem dL_reign_1 : decode cL_reign 1 = .ok (.iconst 0, 1) := by decide +kernel
theorem dL_reign_2 : decode cL_reign 2 = .ok (.aload_n 0, 1) := by decide +kernel
theorem dL_reign_3 : decode cL_reign 3 = .ok (.iload_n 1, 1) := by decide +kernel
theorem dL_reign_4 : decode cL_reign 4 = .ok (.iload_n 2, 1) := by decide +kernel
theorem dL_reign_5 : decode cL_reign 5 = .ok (.invokevirtual 77, 3) := by decide +kernel
theorem dL_reign_8 : decode cL_reign 8 = .ok (.i2l, 1) := by decide +kernel
theorem dL_reign_9 : decode cL_reign 9 = .ok (.lastore, 1) := by decide +kernel
theorem dL_reign_10 : decode cL_reign 10 = .ok (.goto 11, 3) := by decide +kernel
theorem dL_reign_13 : decode cL_reign 13 = .ok (.astore 4, 2) := by decide +kernel
theorem dL_reign_15 : decode cL_reign 15 = .ok (.iconst 1, 1) := by decide +kernel
theorem dL_reign_16 : decode cL_reign 16 = .ok (.ireturn, 1) := by decide +kernel
theorem dL_reign_17 : decode cL_reign 17 = .ok (.astore 4, 2) := by decide +kernel
theorem dL_reign_19 : decode cL_reign 19 = .ok (.iconst 2, 1) := by decide +kernel
theorem dL_reign_20 : decode cL_reign 20 = .ok (.ireturn, 1) := by decide +kernel
theorem dL_reign_21 : decode cL_reign 21 = .ok (.iconst 0, 1) := by decide +kernel
theorem dL_reign_22 : decode cL_reign 22 = .ok (.ireturn, 1) := by decide +kernel
theorem dL_first_0 : decode cL_first 0 = .ok (.aload_n 2, 1) := by decide +kernel
theorem dL_first_1 : decode cL_first 1 = .ok (.iconst 0, 1) := by decide +kernel
theorem dL_first_2 : decode cL_first 2 = .ok (.aload_n 0, 1) := by decide +kernel
theorem dL_first_3 : decode cL_first 3 = .ok (.iload_n 1, 1) := by decide +kernel
theorem dL_first_4 : decode cL_first 4 = .ok (.invokevirtual 80, 3) := by decide +kernel
theorem dL_first_7 : decode cL_first 7 = .ok (.i2l, 1) := by decide +kernel
theorem dL_first_8 : decode cL_first 8 = .ok (.lastore, 1) := by decide +kernel
theorem dL_first_9 : decode cL_first 9 = .ok (.goto 6, 3) := by decide +kernel
theorem dL_first_12 : decode cL_first 12 = .ok (.astore_n 3, 1) := by decide +kernel
theorem dL_first_13 : decode cL_first 13 = .ok (.iconst 1, 1) := by decide +kernel
theorem dL_first_14 : decode cL_first 14 = .ok (.ireturn, 1) := by decide +kernel
theorem dL_first_15 : decode cL_first 15 = .ok (.iconst 0, 1) := by decide +kernel
theorem dL_first_16 : decode cL_first 16 = .ok (.ireturn, 1) := by decide +kernel
theorem dL_seen_0 : decode cL_seen 0 = .ok (.aload_n 2, 1) := by decide +kernel
theorem dL_seen_1 : decode cL_seen 1 = .ok (.iconst 0, 1) := by decide +kernel
theorem dL_seen_2 : decode cL_seen 2 = .ok (.aload_n 0, 1) := by decide +kernel
theorem dL_seen_3 : decode cL_seen 3 = .ok (.iload_n 1, 1) := by decide +kernel
theorem dL_seen_4 : decode cL_seen 4 = .ok (.invokevirtual 83, 3) := by decide +kernel
theorem dL_seen_7 : decode cL_seen 7 = .ok (.i2l, 1) := by decide +kernel
theorem dL_seen_8 : decode cL_seen 8 = .ok (.lastore, 1) := by decide +kernel
theorem dL_seen_9 : decode cL_seen 9 = .ok (.goto 12, 3) := by decide +kernel
theorem dL_seen_12 : decode cL_seen 12 = .ok (.astore_n 3, 1) := by decide +kernel
theorem dL_seen_13 : decode cL_seen 13 = .ok (.iconst 1, 1) := by decide +kernel
theorem dL_seen_14 : decode cL_seen 14 = .ok (.ireturn, 1) := by decide +kernel
theorem dL_seen_15 : decode cL_seen 15 = .ok (.astore_n 3, 1) := by decide +kernel
theorem dL_seen_16 : decode cL_seen 16 = .ok (.iconst 2, 1) := by decide +kernel
theorem dL_seen_17 : decode cL_seen 17 = .ok (.ireturn, 1) := by decide +kernel
theorem dL_seen_18 : decode cL_seen 18 = .ok (.astore_n 3, 1) := by decide +kernel
theorem dL_seen_19 : decode cL_seen 19 = .ok (.iconst 3, 1) := by decide +kernel
theorem dL_seen_20 : decode cL_seen 20 = .ok (.ireturn, 1) := by decide +kernel
theorem dL_seen_21 : decode cL_seen 21 = .ok (.iconst 0, 1) := by decide +kernel
theorem dL_seen_22 : decode cL_seen 22 = .ok (.ireturn, 1) := by decide +kernel
theorem dL_seenAt_0 : decode cL_seenAt 0 = .ok (.aload_n 3, 1) := by decide +kernel
theorem dL_seenAt_1 : decode cL_seenAt 1 = .ok (.iconst 0, 1) := by decide +kernel
theorem dL_seenAt_2 : decode cL_seenAt 2 = .ok (.aload_n 0, 1) := by decide +kernel
theorem dL_seenAt_3 : decode cL_seenAt 3 = .ok (.iload_n 1, 1) := by decide +kernel
theorem dL_seenAt_4 : decode cL_seenAt 4 = .ok (.iload_n 2, 1) := by decide +kernel
theorem dL_seenAt_5 : decode cL_seenAt 5 = .ok (.invokevirtual 86, 3) := by decide +kernel
theorem dL_seenAt_8 : decode cL_seenAt 8 = .ok (.i2l, 1) := by decide +kernel
theorem dL_seenAt_9 : decode cL_seenAt 9 = .ok (.lastore, 1) := by decide +kernel
theorem dL_seenAt_10 : decode cL_seenAt 10 = .ok (.goto 15, 3) := by decide +kernel
theorem dL_seenAt_13 : decode cL_seenAt 13 = .ok (.astore 4, 2) := by decide +kernel
theorem dL_seenAt_15 : decode cL_seenAt 15 = .ok (.iconst 1, 1) := by decide +kernel
theorem dL_seenAt_16 : decode cL_seenAt 16 = .ok (.ireturn, 1) := by decide +kernel
theorem dL_seenAt_17 : decode cL_seenAt 17 = .ok (.astore 4, 2) := by decide +kernel
theorem dL_seenAt_19 : decode cL_seenAt 19 = .ok (.iconst 2, 1) := by decide +kernel
theorem dL_seenAt_20 : decode cL_seenAt 20 = .ok (.ireturn, 1) := by decide +kernel
theorem dL_seenAt_21 : decode cL_seenAt 21 = .ok (.astore 4, 2) := by decide +kernel
theorem dL_seenAt_23 : decode cL_seenAt 23 = .ok (.iconst 3, 1) := by decide +kernel
theorem dL_seenAt_24 : decode cL_seenAt 24 = .ok (.ireturn, 1) := by decide +kernel
theorem dL_seenAt_25 : decode cL_seenAt 25 = .ok (.iconst 0, 1) := by decide +kernel
theorem dL_seenAt_26 : decode cL_seenAt 26 = .ok (.ireturn, 1) := by decide +kernel
theorem dL_ask_0 : decode cL_ask 0 = .ok (.aload_n 2, 1) := by decide +kernel
theorem dL_ask_1 : decode cL_ask 1 = .ok (.iconst 0, 1) := by decide +kernel
theorem dL_ask_2 : decode cL_ask 2 = .ok (.aload_n 0, 1) := by decide +kernel
theorem dL_ask_3 : decode cL_ask 3 = .ok (.iload_n 1, 1) := by decide +kernel
theorem dL_ask_4 : decode cL_ask 4 = .ok (.invokevirtual 89, 3) := by decide +kernel
theorem dL_ask_7 : decode cL_ask 7 = .ok (.i2l, 1) := by decide +kernel
theorem dL_ask_8 : decode cL_ask 8 = .ok (.lastore, 1) := by decide +kernel
theorem dL_ask_9 : decode cL_ask 9 = .ok (.goto 12, 3) := by decide +kernel
theorem dL_ask_12 : decode cL_ask 12 = .ok (.astore_n 3, 1) := by decide +kernel
theorem dL_ask_13 : decode cL_ask 13 = .ok (.iconst 1, 1) := by decide +kernel
theorem dL_ask_14 : decode cL_ask 14 = .ok (.ireturn, 1) := by decide +kernel
theorem dL_ask_15 : decode cL_ask 15 = .ok (.astore_n 3, 1) := by decide +kernel
theorem dL_ask_16 : decode cL_ask 16 = .ok (.iconst 2, 1) := by decide +kernel
theorem dL_ask_17 : decode cL_ask 17 = .ok (.ireturn, 1) := by decide +kernel
theorem dL_ask_18 : decode cL_ask 18 = .ok (.astore_n 3, 1) := by decide +kernel
theorem dL_ask_19 : decode cL_ask 19 = .ok (.iconst 3, 1) := by decide +kernel
theorem dL_ask_20 : decode cL_ask 20 = .ok (.ireturn, 1) := by decide +kernel
theorem dL_ask_21 : decode cL_ask 21 = .ok (.iconst 0, 1) := by decide +kernel
theorem dL_ask_22 : decode cL_ask 22 = .ok (.ireturn, 1) := by decide +kernel
theorem dL_chance_0 : decode cL_chance 0 = .ok (.aload 4, 2) := by decide +kernel
theorem dL_chance_2 : decode cL_chance 2 = .ok (.iconst 0, 1) := by decide +kernel
theorem dL_chance_3 : decode cL_chance 3 = .ok (.aload_n 0, 1) := by decide +kernel
theorem dL_chance_4 : decode cL_chance 4 = .ok (.iload_n 1, 1) := by decide +kernel
theorem dL_chance_5 : decode cL_chance 5 = .ok (.iload_n 2, 1) := by decide +kernel
theorem dL_chance_6 : decode cL_chance 6 = .ok (.iload_n 3, 1) := by decide +kernel
theorem dL_chance_7 : decode cL_chance 7 = .ok (.invokevirtual 92, 3) := by decide +kernel
theorem dL_chance_10 : decode cL_chance 10 = .ok (.i2l, 1) := by decide +kernel
theorem dL_chance_11 : decode cL_chance 11 = .ok (.lastore, 1) := by decide +kernel
theorem dL_chance_12 : decode cL_chance 12 = .ok (.goto 11, 3) := by decide +kernel
theorem dL_chance_15 : decode cL_chance 15 = .ok (.astore 5, 2) := by decide +kernel
theorem dL_chance_17 : decode cL_chance 17 = .ok (.iconst 1, 1) := by decide +kernel
theorem dL_chance_18 : decode cL_chance 18 = .ok (.ireturn, 1) := by decide +kernel
theorem dL_chance_19 : decode cL_chance 19 = .ok (.astore 5, 2) := by decide +kernel
theorem dL_chance_21 : decode cL_chance 21 = .ok (.iconst 2, 1) := by decide +kernel
theorem dL_chance_22 : decode cL_chance 22 = .ok (.ireturn, 1) := by decide +kernel
theorem dL_chance_23 : decode cL_chance 23 = .ok (.iconst 0, 1) := by decide +kernel
theorem dL_chance_24 : decode cL_chance 24 = .ok (.ireturn, 1) := by decide +kernel
theorem dL_likeliest_0 : decode cL_likeliest 0 = .ok (.aload_n 2, 1) := by decide +kernel
theorem dL_likeliest_1 : decode cL_likeliest 1 = .ok (.iconst 0, 1) := by decide +kernel
theorem dL_likeliest_2 : decode cL_likeliest 2 = .ok (.aload_n 0, 1) := by decide +kernel
theorem dL_likeliest_3 : decode cL_likeliest 3 = .ok (.iload_n 1, 1) := by decide +kernel
theorem dL_likeliest_4 : decode cL_likeliest 4 = .ok (.invokevirtual 96, 3) := by decide +kernel
theorem dL_likeliest_7 : decode cL_likeliest 7 = .ok (.i2l, 1) := by decide +kernel
theorem dL_likeliest_8 : decode cL_likeliest 8 = .ok (.lastore, 1) := by decide +kernel
theorem dL_likeliest_9 : decode cL_likeliest 9 = .ok (.goto 6, 3) := by decide +kernel
theorem dL_likeliest_12 : decode cL_likeliest 12 = .ok (.astore_n 3, 1) := by decide +kernel
theorem dL_likeliest_13 : decode cL_likeliest 13 = .ok (.iconst 1, 1) := by decide +kernel
theorem dL_likeliest_14 : decode cL_likeliest 14 = .ok (.ireturn, 1) := by decide +kernel
theorem dL_likeliest_15 : decode cL_likeliest 15 = .ok (.iconst 0, 1) := by decide +kernel
theorem dL_likeliest_16 : decode cL_likeliest 16 = .ok (.ireturn, 1) := by decide +kernel
theorem dL_tray_0 : decode cL_tray 0 = .ok (.aload_n 0, 1) := by decide +kernel
theorem dL_tray_1 : decode cL_tray 1 = .ok (.iload_n 1, 1) := by decide +kernel
theorem dL_tray_2 : decode cL_tray 2 = .ok (.iload_n 2, 1) := by decide +kernel
theorem dL_tray_3 : decode cL_tray 3 = .ok (.iload_n 3, 1) := by decide +kernel
theorem dL_tray_4 : decode cL_tray 4 = .ok (.invokevirtual 99, 3) := by decide +kernel
theorem dL_tray_7 : decode cL_tray 7 = .ok (.goto 11, 3) := by decide +kernel
theorem dL_tray_10 : decode cL_tray 10 = .ok (.astore 4, 2) := by decide +kernel
theorem dL_tray_12 : decode cL_tray 12 = .ok (.iconst 1, 1) := by decide +kernel
theorem dL_tray_13 : decode cL_tray 13 = .ok (.ireturn, 1) := by decide +kernel
theorem dL_tray_14 : decode cL_tray 14 = .ok (.astore 4, 2) := by decide +kernel
theorem dL_tray_16 : decode cL_tray 16 = .ok (.iconst 2, 1) := by decide +kernel
theorem dL_tray_17 : decode cL_tray 17 = .ok (.ireturn, 1) := by decide +kernel
theorem dL_tray_18 : decode cL_tray 18 = .ok (.iconst 0, 1) := by decide +kernel
theorem dL_tray_19 : decode cL_tray 19 = .ok (.ireturn, 1) := by decide +kernel
theorem dL_write_0 : decode cL_write 0 = .ok (.aload 5, 2) := by decide +kernel
theorem dL_write_2 : decode cL_write 2 = .ok (.iconst 0, 1) := by decide +kernel
theorem dL_write_3 : decode cL_write 3 = .ok (.aload_n 0, 1) := by decide +kernel
theorem dL_write_4 : decode cL_write 4 = .ok (.iload_n 1, 1) := by decide +kernel
theorem dL_write_5 : decode cL_write 5 = .ok (.iload_n 2, 1) := by decide +kernel
theorem dL_write_6 : decode cL_write 6 = .ok (.lload_n 3, 1) := by decide +kernel
theorem dL_write_7 : decode cL_write 7 = .ok (.invokevirtual 103, 3) := by decide +kernel
theorem dL_write_10 : decode cL_write 10 = .ok (.lastore, 1) := by decide +kernel
theorem dL_write_11 : decode cL_write 11 = .ok (.goto 15, 3) := by decide +kernel
theorem dL_write_14 : decode cL_write 14 = .ok (.astore 6, 2) := by decide +kernel
theorem dL_write_16 : decode cL_write 16 = .ok (.iconst 1, 1) := by decide +kernel
theorem dL_write_17 : decode cL_write 17 = .ok (.ireturn, 1) := by decide +kernel
theorem dL_write_18 : decode cL_write 18 = .ok (.astore 6, 2) := by decide +kernel
theorem dL_write_20 : decode cL_write 20 = .ok (.iconst 2, 1) := by decide +kernel
theorem dL_write_21 : decode cL_write 21 = .ok (.ireturn, 1) := by decide +kernel
theorem dL_write_22 : decode cL_write 22 = .ok (.astore 6, 2) := by decide +kernel
theorem dL_write_24 : decode cL_write 24 = .ok (.iconst 3, 1) := by decide +kernel
theorem dL_write_25 : decode cL_write 25 = .ok (.ireturn, 1) := by decide +kernel
theorem dL_write_26 : decode cL_write 26 = .ok (.iconst 0, 1) := by decide +kernel
theorem dL_write_27 : decode cL_write 27 = .ok (.ireturn, 1) := by decide +kernel
theorem dL_copy_0 : decode cL_copy 0 = .ok (.aload_n 3, 1) := by decide +kernel
theorem dL_copy_1 : decode cL_copy 1 = .ok (.iconst 0, 1) := by decide +kernel
theorem dL_copy_2 : decode cL_copy 2 = .ok (.aload_n 0, 1) := by decide +kernel
theorem dL_copy_3 : decode cL_copy 3 = .ok (.iload_n 1, 1) := by decide +kernel
theorem dL_copy_4 : decode cL_copy 4 = .ok (.iload_n 2, 1) := by decide +kernel
theorem dL_copy_5 : decode cL_copy 5 = .ok (.invokevirtual 109, 3) := by decide +kernel
theorem dL_copy_8 : decode cL_copy 8 = .ok (.i2l, 1) := by decide +kernel
theorem dL_copy_9 : decode cL_copy 9 = .ok (.lastore, 1) := by decide +kernel
theorem dL_copy_10 : decode cL_copy 10 = .ok (.goto 15, 3) := by decide +kernel
theorem dL_copy_13 : decode cL_copy 13 = .ok (.astore 4, 2) := by decide +kernel
theorem dL_copy_15 : decode cL_copy 15 = .ok (.iconst 1, 1) := by decide +kernel
theorem dL_copy_16 : decode cL_copy 16 = .ok (.ireturn, 1) := by decide +kernel
theorem dL_copy_17 : decode cL_copy 17 = .ok (.astore 4, 2) := by decide +kernel
theorem dL_copy_19 : decode cL_copy 19 = .ok (.iconst 2, 1) := by decide +kernel
theorem dL_copy_20 : decode cL_copy 20 = .ok (.ireturn, 1) := by decide +kernel
theorem dL_copy_21 : decode cL_copy 21 = .ok (.astore 4, 2) := by decide +kernel
theorem dL_copy_23 : decode cL_copy 23 = .ok (.iconst 3, 1) := by decide +kernel
theorem dL_copy_24 : decode cL_copy 24 = .ok (.ireturn, 1) := by decide +kernel
theorem dL_copy_25 : decode cL_copy 25 = .ok (.iconst 0, 1) := by decide +kernel
theorem dL_copy_26 : decode cL_copy 26 = .ok (.ireturn, 1) := by decide +kernel
theorem dL_image_0 : decode cL_image 0 = .ok (.aload_n 0, 1) := by decide +kernel
theorem dL_image_1 : decode cL_image 1 = .ok (.iload_n 1, 1) := by decide +kernel
theorem dL_image_2 : decode cL_image 2 = .ok (.invokevirtual 112, 3) := by decide +kernel
theorem dL_image_5 : decode cL_image 5 = .ok (.goto 6, 3) := by decide +kernel
theorem dL_image_8 : decode cL_image 8 = .ok (.astore_n 2, 1) := by decide +kernel
theorem dL_image_9 : decode cL_image 9 = .ok (.iconst 1, 1) := by decide +kernel
theorem dL_image_10 : decode cL_image 10 = .ok (.ireturn, 1) := by decide +kernel
theorem dL_image_11 : decode cL_image 11 = .ok (.iconst 0, 1) := by decide +kernel
theorem dL_image_12 : decode cL_image 12 = .ok (.ireturn, 1) := by decide +kernel
theorem dL_restore_0 : decode cL_restore 0 = .ok (.aload_n 0, 1) := by decide +kernel
theorem dL_restore_1 : decode cL_restore 1 = .ok (.iload_n 1, 1) := by decide +kernel
theorem dL_restore_2 : decode cL_restore 2 = .ok (.invokevirtual 116, 3) := by decide +kernel
theorem dL_restore_5 : decode cL_restore 5 = .ok (.goto 9, 3) := by decide +kernel
theorem dL_restore_8 : decode cL_restore 8 = .ok (.astore_n 2, 1) := by decide +kernel
theorem dL_restore_9 : decode cL_restore 9 = .ok (.iconst 1, 1) := by decide +kernel
theorem dL_restore_10 : decode cL_restore 10 = .ok (.ireturn, 1) := by decide +kernel
theorem dL_restore_11 : decode cL_restore 11 = .ok (.astore_n 2, 1) := by decide +kernel
theorem dL_restore_12 : decode cL_restore 12 = .ok (.iconst 2, 1) := by decide +kernel
theorem dL_restore_13 : decode cL_restore 13 = .ok (.ireturn, 1) := by decide +kernel
theorem dL_restore_14 : decode cL_restore 14 = .ok (.iconst 0, 1) := by decide +kernel
theorem dL_restore_15 : decode cL_restore 15 = .ok (.ireturn, 1) := by decide +kernel
theorem dL_law_0 : decode cL_law 0 = .ok (.new 8, 3) := by decide +kernel
theorem dL_law_3 : decode cL_law 3 = .ok (.dup, 1) := by decide +kernel
theorem dL_law_4 : decode cL_law 4 = .ok (.invokespecial 119, 3) := by decide +kernel
theorem dL_law_7 : decode cL_law 7 = .ok (.astore_n 1, 1) := by decide +kernel
theorem dL_law_8 : decode cL_law 8 = .ok (.new 120, 3) := by decide +kernel
theorem dL_law_11 : decode cL_law 11 = .ok (.dup, 1) := by decide +kernel
theorem dL_law_12 : decode cL_law 12 = .ok (.invokespecial 122, 3) := by decide +kernel
theorem dL_law_15 : decode cL_law 15 = .ok (.astore_n 2, 1) := by decide +kernel
theorem dL_law_16 : decode cL_law 16 = .ok (.iconst 1, 1) := by decide +kernel
theorem dL_law_17 : decode cL_law 17 = .ok (.newarray .long, 2) := by decide +kernel
theorem dL_law_19 : decode cL_law 19 = .ok (.astore_n 3, 1) := by decide +kernel
theorem dL_law_20 : decode cL_law 20 = .ok (.iconst 0, 1) := by decide +kernel
theorem dL_law_21 : decode cL_law 21 = .ok (.istore 4, 2) := by decide +kernel
theorem dL_law_23 : decode cL_law 23 = .ok (.iload 4, 2) := by decide +kernel
theorem dL_law_25 : decode cL_law 25 = .ok (.aload_n 0, 1) := by decide +kernel
theorem dL_law_26 : decode cL_law 26 = .ok (.arraylength, 1) := by decide +kernel
theorem dL_law_27 : decode cL_law 27 = .ok (.bipush 6, 2) := by decide +kernel
theorem dL_law_29 : decode cL_law 29 = .ok (.isub, 1) := by decide +kernel
theorem dL_law_30 : decode cL_law 30 = .ok (.if_icmp .gt 2429, 3) := by decide +kernel
theorem dL_law_33 : decode cL_law 33 = .ok (.aload_n 0, 1) := by decide +kernel
theorem dL_law_34 : decode cL_law 34 = .ok (.iload 4, 2) := by decide +kernel
theorem dL_law_36 : decode cL_law 36 = .ok (.iaload, 1) := by decide +kernel
theorem dL_law_37 : decode cL_law 37 = .ok (.bipush 63, 2) := by decide +kernel
theorem dL_law_39 : decode cL_law 39 = .ok (.iand, 1) := by decide +kernel
theorem dL_law_40 : decode cL_law 40 = .ok (.tableswitch 2413 0 41 #[184, 257, 313, 338, 406, 419, 475, 531, 568, 605, 630, 686, 742, 810, 866, 934, 1002, 1058, 1126, 1139, 1152, 1208, 1221, 1277, 1345, 1401, 1457, 1513, 1569, 1637, 1705, 1761, 1817, 1885, 1941, 2021, 2077, 2137, 2248, 2316, 2352, 2388], 184) := by decide +kernel
theorem dL_law_224 : decode cL_law 224 = .ok (.aload_n 1, 1) := by decide +kernel
theorem dL_law_225 : decode cL_law 225 = .ok (.aload_n 0, 1) := by decide +kernel
theorem dL_law_226 : decode cL_law 226 = .ok (.iload 4, 2) := by decide +kernel
theorem dL_law_228 : decode cL_law 228 = .ok (.iconst 1, 1) := by decide +kernel
theorem dL_law_229 : decode cL_law 229 = .ok (.iadd, 1) := by decide +kernel
theorem dL_law_230 : decode cL_law 230 = .ok (.iaload, 1) := by decide +kernel
theorem dL_law_231 : decode cL_law 231 = .ok (.aload_n 0, 1) := by decide +kernel
theorem dL_law_232 : decode cL_law 232 = .ok (.iload 4, 2) := by decide +kernel
theorem dL_law_234 : decode cL_law 234 = .ok (.iconst 2, 1) := by decide +kernel
theorem dL_law_235 : decode cL_law 235 = .ok (.iadd, 1) := by decide +kernel
theorem dL_law_236 : decode cL_law 236 = .ok (.iaload, 1) := by decide +kernel
theorem dL_law_237 : decode cL_law 237 = .ok (.aload_n 0, 1) := by decide +kernel
theorem dL_law_238 : decode cL_law 238 = .ok (.iload 4, 2) := by decide +kernel
theorem dL_law_240 : decode cL_law 240 = .ok (.iconst 3, 1) := by decide +kernel
theorem dL_law_241 : decode cL_law 241 = .ok (.iadd, 1) := by decide +kernel
theorem dL_law_242 : decode cL_law 242 = .ok (.iaload, 1) := by decide +kernel
theorem dL_law_243 : decode cL_law 243 = .ok (.aload_n 0, 1) := by decide +kernel
theorem dL_law_244 : decode cL_law 244 = .ok (.iload 4, 2) := by decide +kernel
theorem dL_law_246 : decode cL_law 246 = .ok (.iconst 4, 1) := by decide +kernel
theorem dL_law_247 : decode cL_law 247 = .ok (.iadd, 1) := by decide +kernel
theorem dL_law_248 : decode cL_law 248 = .ok (.iaload, 1) := by decide +kernel
theorem dL_law_249 : decode cL_law 249 = .ok (.aload_n 0, 1) := by decide +kernel
theorem dL_law_250 : decode cL_law 250 = .ok (.iload 4, 2) := by decide +kernel
theorem dL_law_252 : decode cL_law 252 = .ok (.iconst 5, 1) := by decide +kernel
theorem dL_law_253 : decode cL_law 253 = .ok (.iadd, 1) := by decide +kernel
theorem dL_law_254 : decode cL_law 254 = .ok (.iaload, 1) := by decide +kernel
theorem dL_law_255 : decode cL_law 255 = .ok (.invokevirtual 123, 3) := by decide +kernel
theorem dL_law_258 : decode cL_law 258 = .ok (.aload_n 2, 1) := by decide +kernel
theorem dL_law_259 : decode cL_law 259 = .ok (.aload_n 0, 1) := by decide +kernel
theorem dL_law_260 : decode cL_law 260 = .ok (.iload 4, 2) := by decide +kernel
theorem dL_law_262 : decode cL_law 262 = .ok (.iconst 1, 1) := by decide +kernel
theorem dL_law_263 : decode cL_law 263 = .ok (.iadd, 1) := by decide +kernel
theorem dL_law_264 : decode cL_law 264 = .ok (.iaload, 1) := by decide +kernel
theorem dL_law_265 : decode cL_law 265 = .ok (.aload_n 0, 1) := by decide +kernel
theorem dL_law_266 : decode cL_law 266 = .ok (.iload 4, 2) := by decide +kernel
theorem dL_law_268 : decode cL_law 268 = .ok (.iconst 2, 1) := by decide +kernel
theorem dL_law_269 : decode cL_law 269 = .ok (.iadd, 1) := by decide +kernel
theorem dL_law_270 : decode cL_law 270 = .ok (.iaload, 1) := by decide +kernel
theorem dL_law_271 : decode cL_law 271 = .ok (.aload_n 0, 1) := by decide +kernel
theorem dL_law_272 : decode cL_law 272 = .ok (.iload 4, 2) := by decide +kernel
theorem dL_law_274 : decode cL_law 274 = .ok (.iconst 3, 1) := by decide +kernel
theorem dL_law_275 : decode cL_law 275 = .ok (.iadd, 1) := by decide +kernel
theorem dL_law_276 : decode cL_law 276 = .ok (.iaload, 1) := by decide +kernel
theorem dL_law_277 : decode cL_law 277 = .ok (.aload_n 0, 1) := by decide +kernel
theorem dL_law_278 : decode cL_law 278 = .ok (.iload 4, 2) := by decide +kernel
theorem dL_law_280 : decode cL_law 280 = .ok (.iconst 4, 1) := by decide +kernel
theorem dL_law_281 : decode cL_law 281 = .ok (.iadd, 1) := by decide +kernel
theorem dL_law_282 : decode cL_law 282 = .ok (.iaload, 1) := by decide +kernel
theorem dL_law_283 : decode cL_law 283 = .ok (.aload_n 0, 1) := by decide +kernel
theorem dL_law_284 : decode cL_law 284 = .ok (.iload 4, 2) := by decide +kernel
theorem dL_law_286 : decode cL_law 286 = .ok (.iconst 5, 1) := by decide +kernel
theorem dL_law_287 : decode cL_law 287 = .ok (.iadd, 1) := by decide +kernel
theorem dL_law_288 : decode cL_law 288 = .ok (.iaload, 1) := by decide +kernel
theorem dL_law_289 : decode cL_law 289 = .ok (.invokevirtual 127, 3) := by decide +kernel
theorem dL_law_292 : decode cL_law 292 = .ok (.if_icmp .eq 2161, 3) := by decide +kernel
theorem dL_law_295 : decode cL_law 295 = .ok (.iconst 0, 1) := by decide +kernel
theorem dL_law_296 : decode cL_law 296 = .ok (.ireturn, 1) := by decide +kernel
theorem dL_law_297 : decode cL_law 297 = .ok (.aload_n 1, 1) := by decide +kernel
theorem dL_law_298 : decode cL_law 298 = .ok (.aload_n 0, 1) := by decide +kernel
theorem dL_law_299 : decode cL_law 299 = .ok (.iload 4, 2) := by decide +kernel
theorem dL_law_301 : decode cL_law 301 = .ok (.iconst 1, 1) := by decide +kernel
theorem dL_law_302 : decode cL_law 302 = .ok (.iadd, 1) := by decide +kernel
theorem dL_law_303 : decode cL_law 303 = .ok (.iaload, 1) := by decide +kernel
theorem dL_law_304 : decode cL_law 304 = .ok (.aload_n 3, 1) := by decide +kernel
theorem dL_law_305 : decode cL_law 305 = .ok (.invokestatic 128, 3) := by decide +kernel
theorem dL_law_308 : decode cL_law 308 = .ok (.istore 5, 2) := by decide +kernel
theorem dL_law_310 : decode cL_law 310 = .ok (.aload_n 2, 1) := by decide +kernel
theorem dL_law_311 : decode cL_law 311 = .ok (.aload_n 0, 1) := by decide +kernel
theorem dL_law_312 : decode cL_law 312 = .ok (.iload 4, 2) := by decide +kernel
theorem dL_law_314 : decode cL_law 314 = .ok (.iconst 1, 1) := by decide +kernel
theorem dL_law_315 : decode cL_law 315 = .ok (.iadd, 1) := by decide +kernel
theorem dL_law_316 : decode cL_law 316 = .ok (.iaload, 1) := by decide +kernel
theorem dL_law_317 : decode cL_law 317 = .ok (.invokevirtual 133, 3) := by decide +kernel
theorem dL_law_320 : decode cL_law 320 = .ok (.istore 6, 2) := by decide +kernel
theorem dL_law_322 : decode cL_law 322 = .ok (.aload_n 2, 1) := by decide +kernel
theorem dL_law_323 : decode cL_law 323 = .ok (.invokevirtual 134, 3) := by decide +kernel
theorem dL_law_326 : decode cL_law 326 = .ok (.iload 5, 2) := by decide +kernel
theorem dL_law_328 : decode cL_law 328 = .ok (.if_icmp .eq 5, 3) := by decide +kernel
theorem dL_law_331 : decode cL_law 331 = .ok (.iconst 0, 1) := by decide +kernel
theorem dL_law_332 : decode cL_law 332 = .ok (.ireturn, 1) := by decide +kernel
theorem dL_law_333 : decode cL_law 333 = .ok (.iload 5, 2) := by decide +kernel
theorem dL_law_335 : decode cL_law 335 = .ok (.ifCond .ne 15, 3) := by decide +kernel
theorem dL_law_338 : decode cL_law 338 = .ok (.aload_n 3, 1) := by decide +kernel
theorem dL_law_339 : decode cL_law 339 = .ok (.iconst 0, 1) := by decide +kernel
theorem dL_law_340 : decode cL_law 340 = .ok (.laload, 1) := by decide +kernel
theorem dL_law_341 : decode cL_law 341 = .ok (.iload 6, 2) := by decide +kernel
theorem dL_law_343 : decode cL_law 343 = .ok (.i2l, 1) := by decide +kernel
theorem dL_law_344 : decode cL_law 344 = .ok (.lcmp, 1) := by decide +kernel
theorem dL_law_345 : decode cL_law 345 = .ok (.ifCond .eq 5, 3) := by decide +kernel
theorem dL_law_348 : decode cL_law 348 = .ok (.iconst 0, 1) := by decide +kernel
theorem dL_law_349 : decode cL_law 349 = .ok (.ireturn, 1) := by decide +kernel
theorem dL_law_350 : decode cL_law 350 = .ok (.goto 2103, 3) := by decide +kernel
theorem dL_law_353 : decode cL_law 353 = .ok (.aload_n 1, 1) := by decide +kernel
theorem dL_law_354 : decode cL_law 354 = .ok (.aload_n 0, 1) := by decide +kernel
theorem dL_law_355 : decode cL_law 355 = .ok (.iload 4, 2) := by decide +kernel
theorem dL_law_357 : decode cL_law 357 = .ok (.iconst 1, 1) := by decide +kernel
theorem dL_law_358 : decode cL_law 358 = .ok (.iadd, 1) := by decide +kernel
theorem dL_law_359 : decode cL_law 359 = .ok (.iaload, 1) := by decide +kernel
theorem dL_law_360 : decode cL_law 360 = .ok (.invokevirtual 138, 3) := by decide +kernel
theorem dL_law_363 : decode cL_law 363 = .ok (.aload_n 2, 1) := by decide +kernel
theorem dL_law_364 : decode cL_law 364 = .ok (.aload_n 0, 1) := by decide +kernel
theorem dL_law_365 : decode cL_law 365 = .ok (.iload 4, 2) := by decide +kernel
theorem dL_law_367 : decode cL_law 367 = .ok (.iconst 1, 1) := by decide +kernel
theorem dL_law_368 : decode cL_law 368 = .ok (.iadd, 1) := by decide +kernel
theorem dL_law_369 : decode cL_law 369 = .ok (.iaload, 1) := by decide +kernel
theorem dL_law_370 : decode cL_law 370 = .ok (.invokevirtual 141, 3) := by decide +kernel
theorem dL_law_373 : decode cL_law 373 = .ok (.if_icmp .eq 2080, 3) := by decide +kernel
theorem dL_law_376 : decode cL_law 376 = .ok (.iconst 0, 1) := by decide +kernel
theorem dL_law_377 : decode cL_law 377 = .ok (.ireturn, 1) := by decide +kernel
theorem dL_law_378 : decode cL_law 378 = .ok (.aload_n 1, 1) := by decide +kernel
theorem dL_law_379 : decode cL_law 379 = .ok (.aload_n 0, 1) := by decide +kernel
theorem dL_law_380 : decode cL_law 380 = .ok (.iload 4, 2) := by decide +kernel
theorem dL_law_382 : decode cL_law 382 = .ok (.iconst 1, 1) := by decide +kernel
theorem dL_law_383 : decode cL_law 383 = .ok (.iadd, 1) := by decide +kernel
theorem dL_law_384 : decode cL_law 384 = .ok (.iaload, 1) := by decide +kernel
theorem dL_law_385 : decode cL_law 385 = .ok (.aload_n 0, 1) := by decide +kernel
theorem dL_law_386 : decode cL_law 386 = .ok (.iload 4, 2) := by decide +kernel
theorem dL_law_388 : decode cL_law 388 = .ok (.iconst 2, 1) := by decide +kernel
theorem dL_law_389 : decode cL_law 389 = .ok (.iadd, 1) := by decide +kernel
theorem dL_law_390 : decode cL_law 390 = .ok (.iaload, 1) := by decide +kernel
theorem dL_law_391 : decode cL_law 391 = .ok (.aload_n 3, 1) := by decide +kernel
theorem dL_law_392 : decode cL_law 392 = .ok (.invokestatic 142, 3) := by decide +kernel
theorem dL_law_395 : decode cL_law 395 = .ok (.istore 5, 2) := by decide +kernel
theorem dL_law_397 : decode cL_law 397 = .ok (.aload_n 2, 1) := by decide +kernel
theorem dL_law_398 : decode cL_law 398 = .ok (.aload_n 0, 1) := by decide +kernel
theorem dL_law_399 : decode cL_law 399 = .ok (.iload 4, 2) := by decide +kernel
theorem dL_law_401 : decode cL_law 401 = .ok (.iconst 1, 1) := by decide +kernel
theorem dL_law_402 : decode cL_law 402 = .ok (.iadd, 1) := by decide +kernel
theorem dL_law_403 : decode cL_law 403 = .ok (.iaload, 1) := by decide +kernel
theorem dL_law_404 : decode cL_law 404 = .ok (.aload_n 0, 1) := by decide +kernel
theorem dL_law_405 : decode cL_law 405 = .ok (.iload 4, 2) := by decide +kernel
theorem dL_law_407 : decode cL_law 407 = .ok (.iconst 2, 1) := by decide +kernel
theorem dL_law_408 : decode cL_law 408 = .ok (.iadd, 1) := by decide +kernel
theorem dL_law_409 : decode cL_law 409 = .ok (.iaload, 1) := by decide +kernel
theorem dL_law_410 : decode cL_law 410 = .ok (.invokevirtual 145, 3) := by decide +kernel
theorem dL_law_413 : decode cL_law 413 = .ok (.istore 6, 2) := by decide +kernel
theorem dL_law_415 : decode cL_law 415 = .ok (.aload_n 2, 1) := by decide +kernel
theorem dL_law_416 : decode cL_law 416 = .ok (.invokevirtual 134, 3) := by decide +kernel
theorem dL_law_419 : decode cL_law 419 = .ok (.iload 5, 2) := by decide +kernel
theorem dL_law_421 : decode cL_law 421 = .ok (.if_icmp .eq 5, 3) := by decide +kernel
theorem dL_law_424 : decode cL_law 424 = .ok (.iconst 0, 1) := by decide +kernel
theorem dL_law_425 : decode cL_law 425 = .ok (.ireturn, 1) := by decide +kernel
theorem dL_law_426 : decode cL_law 426 = .ok (.iload 5, 2) := by decide +kernel
theorem dL_law_428 : decode cL_law 428 = .ok (.ifCond .ne 15, 3) := by decide +kernel
theorem dL_law_431 : decode cL_law 431 = .ok (.aload_n 3, 1) := by decide +kernel
theorem dL_law_432 : decode cL_law 432 = .ok (.iconst 0, 1) := by decide +kernel
theorem dL_law_433 : decode cL_law 433 = .ok (.laload, 1) := by decide +kernel
theorem dL_law_434 : decode cL_law 434 = .ok (.iload 6, 2) := by decide +kernel
theorem dL_law_436 : decode cL_law 436 = .ok (.i2l, 1) := by decide +kernel
theorem dL_law_437 : decode cL_law 437 = .ok (.lcmp, 1) := by decide +kernel
theorem dL_law_438 : decode cL_law 438 = .ok (.ifCond .eq 5, 3) := by decide +kernel
theorem dL_law_441 : decode cL_law 441 = .ok (.iconst 0, 1) := by decide +kernel
theorem dL_law_442 : decode cL_law 442 = .ok (.ireturn, 1) := by decide +kernel
theorem dL_law_443 : decode cL_law 443 = .ok (.goto 2010, 3) := by decide +kernel
theorem dL_law_446 : decode cL_law 446 = .ok (.aload_n 1, 1) := by decide +kernel
theorem dL_law_447 : decode cL_law 447 = .ok (.invokevirtual 146, 3) := by decide +kernel
theorem dL_law_450 : decode cL_law 450 = .ok (.aload_n 2, 1) := by decide +kernel
theorem dL_law_451 : decode cL_law 451 = .ok (.invokevirtual 149, 3) := by decide +kernel
theorem dL_law_454 : decode cL_law 454 = .ok (.if_icmp .eq 1999, 3) := by decide +kernel
theorem dL_law_457 : decode cL_law 457 = .ok (.iconst 0, 1) := by decide +kernel
theorem dL_law_458 : decode cL_law 458 = .ok (.ireturn, 1) := by decide +kernel
theorem dL_law_459 : decode cL_law 459 = .ok (.aload_n 1, 1) := by decide +kernel
theorem dL_law_460 : decode cL_law 460 = .ok (.aload_n 0, 1) := by decide +kernel
theorem dL_law_461 : decode cL_law 461 = .ok (.iload 4, 2) := by decide +kernel
theorem dL_law_463 : decode cL_law 463 = .ok (.iconst 1, 1) := by decide +kernel
theorem dL_law_464 : decode cL_law 464 = .ok (.iadd, 1) := by decide +kernel
theorem dL_law_465 : decode cL_law 465 = .ok (.iaload, 1) := by decide +kernel
theorem dL_law_466 : decode cL_law 466 = .ok (.aload_n 3, 1) := by decide +kernel
theorem dL_law_467 : decode cL_law 467 = .ok (.invokestatic 150, 3) := by decide +kernel
theorem dL_law_470 : decode cL_law 470 = .ok (.istore 5, 2) := by decide +kernel
theorem dL_law_472 : decode cL_law 472 = .ok (.aload_n 2, 1) := by decide +kernel
theorem dL_law_473 : decode cL_law 473 = .ok (.aload_n 0, 1) := by decide +kernel
theorem dL_law_474 : decode cL_law 474 = .ok (.iload 4, 2) := by decide +kernel
theorem dL_law_476 : decode cL_law 476 = .ok (.iconst 1, 1) := by decide +kernel
theorem dL_law_477 : decode cL_law 477 = .ok (.iadd, 1) := by decide +kernel
theorem dL_law_478 : decode cL_law 478 = .ok (.iaload, 1) := by decide +kernel
theorem dL_law_479 : decode cL_law 479 = .ok (.invokevirtual 152, 3) := by decide +kernel
theorem dL_law_482 : decode cL_law 482 = .ok (.istore 6, 2) := by decide +kernel
theorem dL_law_484 : decode cL_law 484 = .ok (.aload_n 2, 1) := by decide +kernel
theorem dL_law_485 : decode cL_law 485 = .ok (.invokevirtual 134, 3) := by decide +kernel
theorem dL_law_488 : decode cL_law 488 = .ok (.iload 5, 2) := by decide +kernel
theorem dL_law_490 : decode cL_law 490 = .ok (.if_icmp .eq 5, 3) := by decide +kernel
theorem dL_law_493 : decode cL_law 493 = .ok (.iconst 0, 1) := by decide +kernel
theorem dL_law_494 : decode cL_law 494 = .ok (.ireturn, 1) := by decide +kernel
theorem dL_law_495 : decode cL_law 495 = .ok (.iload 5, 2) := by decide +kernel
theorem dL_law_497 : decode cL_law 497 = .ok (.ifCond .ne 15, 3) := by decide +kernel
theorem dL_law_500 : decode cL_law 500 = .ok (.aload_n 3, 1) := by decide +kernel
theorem dL_law_501 : decode cL_law 501 = .ok (.iconst 0, 1) := by decide +kernel
theorem dL_law_502 : decode cL_law 502 = .ok (.laload, 1) := by decide +kernel
theorem dL_law_503 : decode cL_law 503 = .ok (.iload 6, 2) := by decide +kernel
theorem dL_law_505 : decode cL_law 505 = .ok (.i2l, 1) := by decide +kernel
theorem dL_law_506 : decode cL_law 506 = .ok (.lcmp, 1) := by decide +kernel
theorem dL_law_507 : decode cL_law 507 = .ok (.ifCond .eq 5, 3) := by decide +kernel
theorem dL_law_510 : decode cL_law 510 = .ok (.iconst 0, 1) := by decide +kernel
theorem dL_law_511 : decode cL_law 511 = .ok (.ireturn, 1) := by decide +kernel
theorem dL_law_512 : decode cL_law 512 = .ok (.goto 1941, 3) := by decide +kernel
theorem dL_law_515 : decode cL_law 515 = .ok (.aload_n 1, 1) := by decide +kernel
theorem dL_law_516 : decode cL_law 516 = .ok (.aload_n 0, 1) := by decide +kernel
theorem dL_law_517 : decode cL_law 517 = .ok (.iload 4, 2) := by decide +kernel
theorem dL_law_519 : decode cL_law 519 = .ok (.iconst 1, 1) := by decide +kernel
theorem dL_law_520 : decode cL_law 520 = .ok (.iadd, 1) := by decide +kernel
theorem dL_law_521 : decode cL_law 521 = .ok (.iaload, 1) := by decide +kernel
theorem dL_law_522 : decode cL_law 522 = .ok (.aload_n 3, 1) := by decide +kernel
theorem dL_law_523 : decode cL_law 523 = .ok (.invokestatic 153, 3) := by decide +kernel
theorem dL_law_526 : decode cL_law 526 = .ok (.istore 5, 2) := by decide +kernel
theorem dL_law_528 : decode cL_law 528 = .ok (.aload_n 2, 1) := by decide +kernel
theorem dL_law_529 : decode cL_law 529 = .ok (.aload_n 0, 1) := by decide +kernel
theorem dL_law_530 : decode cL_law 530 = .ok (.iload 4, 2) := by decide +kernel
theorem dL_law_532 : decode cL_law 532 = .ok (.iconst 1, 1) := by decide +kernel
theorem dL_law_533 : decode cL_law 533 = .ok (.iadd, 1) := by decide +kernel
theorem dL_law_534 : decode cL_law 534 = .ok (.iaload, 1) := by decide +kernel
theorem dL_law_535 : decode cL_law 535 = .ok (.invokevirtual 155, 3) := by decide +kernel
theorem dL_law_538 : decode cL_law 538 = .ok (.istore 6, 2) := by decide +kernel
theorem dL_law_540 : decode cL_law 540 = .ok (.aload_n 2, 1) := by decide +kernel
theorem dL_law_541 : decode cL_law 541 = .ok (.invokevirtual 134, 3) := by decide +kernel
theorem dL_law_544 : decode cL_law 544 = .ok (.iload 5, 2) := by decide +kernel
theorem dL_law_546 : decode cL_law 546 = .ok (.if_icmp .eq 5, 3) := by decide +kernel
theorem dL_law_549 : decode cL_law 549 = .ok (.iconst 0, 1) := by decide +kernel
theorem dL_law_550 : decode cL_law 550 = .ok (.ireturn, 1) := by decide +kernel
theorem dL_law_551 : decode cL_law 551 = .ok (.iload 5, 2) := by decide +kernel
theorem dL_law_553 : decode cL_law 553 = .ok (.ifCond .ne 15, 3) := by decide +kernel
theorem dL_law_556 : decode cL_law 556 = .ok (.aload_n 3, 1) := by decide +kernel
theorem dL_law_557 : decode cL_law 557 = .ok (.iconst 0, 1) := by decide +kernel
theorem dL_law_558 : decode cL_law 558 = .ok (.laload, 1) := by decide +kernel
theorem dL_law_559 : decode cL_law 559 = .ok (.iload 6, 2) := by decide +kernel
theorem dL_law_561 : decode cL_law 561 = .ok (.i2l, 1) := by decide +kernel
theorem dL_law_562 : decode cL_law 562 = .ok (.lcmp, 1) := by decide +kernel
theorem dL_law_563 : decode cL_law 563 = .ok (.ifCond .eq 5, 3) := by decide +kernel
theorem dL_law_566 : decode cL_law 566 = .ok (.iconst 0, 1) := by decide +kernel
theorem dL_law_567 : decode cL_law 567 = .ok (.ireturn, 1) := by decide +kernel
theorem dL_law_568 : decode cL_law 568 = .ok (.goto 1885, 3) := by decide +kernel
theorem dL_law_571 : decode cL_law 571 = .ok (.aload_n 1, 1) := by decide +kernel
theorem dL_law_572 : decode cL_law 572 = .ok (.aload_n 0, 1) := by decide +kernel
theorem dL_law_573 : decode cL_law 573 = .ok (.iload 4, 2) := by decide +kernel
theorem dL_law_575 : decode cL_law 575 = .ok (.iconst 1, 1) := by decide +kernel
theorem dL_law_576 : decode cL_law 576 = .ok (.iadd, 1) := by decide +kernel
theorem dL_law_577 : decode cL_law 577 = .ok (.iaload, 1) := by decide +kernel
theorem dL_law_578 : decode cL_law 578 = .ok (.aload_n 0, 1) := by decide +kernel
theorem dL_law_579 : decode cL_law 579 = .ok (.iload 4, 2) := by decide +kernel
theorem dL_law_581 : decode cL_law 581 = .ok (.iconst 2, 1) := by decide +kernel
theorem dL_law_582 : decode cL_law 582 = .ok (.iadd, 1) := by decide +kernel
theorem dL_law_583 : decode cL_law 583 = .ok (.iaload, 1) := by decide +kernel
theorem dL_law_584 : decode cL_law 584 = .ok (.invokevirtual 156, 3) := by decide +kernel
theorem dL_law_587 : decode cL_law 587 = .ok (.aload_n 2, 1) := by decide +kernel
theorem dL_law_588 : decode cL_law 588 = .ok (.aload_n 0, 1) := by decide +kernel
theorem dL_law_589 : decode cL_law 589 = .ok (.iload 4, 2) := by decide +kernel
theorem dL_law_591 : decode cL_law 591 = .ok (.iconst 1, 1) := by decide +kernel
theorem dL_law_592 : decode cL_law 592 = .ok (.iadd, 1) := by decide +kernel
theorem dL_law_593 : decode cL_law 593 = .ok (.iaload, 1) := by decide +kernel
theorem dL_law_594 : decode cL_law 594 = .ok (.aload_n 0, 1) := by decide +kernel
theorem dL_law_595 : decode cL_law 595 = .ok (.iload 4, 2) := by decide +kernel
theorem dL_law_597 : decode cL_law 597 = .ok (.iconst 2, 1) := by decide +kernel
theorem dL_law_598 : decode cL_law 598 = .ok (.iadd, 1) := by decide +kernel
theorem dL_law_599 : decode cL_law 599 = .ok (.iaload, 1) := by decide +kernel
theorem dL_law_600 : decode cL_law 600 = .ok (.invokevirtual 159, 3) := by decide +kernel
theorem dL_law_603 : decode cL_law 603 = .ok (.if_icmp .eq 1850, 3) := by decide +kernel
theorem dL_law_606 : decode cL_law 606 = .ok (.iconst 0, 1) := by decide +kernel
theorem dL_law_607 : decode cL_law 607 = .ok (.ireturn, 1) := by decide +kernel
theorem dL_law_608 : decode cL_law 608 = .ok (.aload_n 1, 1) := by decide +kernel
theorem dL_law_609 : decode cL_law 609 = .ok (.aload_n 0, 1) := by decide +kernel
theorem dL_law_610 : decode cL_law 610 = .ok (.iload 4, 2) := by decide +kernel
theorem dL_law_612 : decode cL_law 612 = .ok (.iconst 1, 1) := by decide +kernel
theorem dL_law_613 : decode cL_law 613 = .ok (.iadd, 1) := by decide +kernel
theorem dL_law_614 : decode cL_law 614 = .ok (.iaload, 1) := by decide +kernel
theorem dL_law_615 : decode cL_law 615 = .ok (.aload_n 0, 1) := by decide +kernel
theorem dL_law_616 : decode cL_law 616 = .ok (.iload 4, 2) := by decide +kernel
theorem dL_law_618 : decode cL_law 618 = .ok (.iconst 2, 1) := by decide +kernel
theorem dL_law_619 : decode cL_law 619 = .ok (.iadd, 1) := by decide +kernel
theorem dL_law_620 : decode cL_law 620 = .ok (.iaload, 1) := by decide +kernel
theorem dL_law_621 : decode cL_law 621 = .ok (.invokevirtual 160, 3) := by decide +kernel
theorem dL_law_624 : decode cL_law 624 = .ok (.aload_n 2, 1) := by decide +kernel
theorem dL_law_625 : decode cL_law 625 = .ok (.aload_n 0, 1) := by decide +kernel
theorem dL_law_626 : decode cL_law 626 = .ok (.iload 4, 2) := by decide +kernel
theorem dL_law_628 : decode cL_law 628 = .ok (.iconst 1, 1) := by decide +kernel
theorem dL_law_629 : decode cL_law 629 = .ok (.iadd, 1) := by decide +kernel
theorem dL_law_630 : decode cL_law 630 = .ok (.iaload, 1) := by decide +kernel
theorem dL_law_631 : decode cL_law 631 = .ok (.aload_n 0, 1) := by decide +kernel
theorem dL_law_632 : decode cL_law 632 = .ok (.iload 4, 2) := by decide +kernel
theorem dL_law_634 : decode cL_law 634 = .ok (.iconst 2, 1) := by decide +kernel
theorem dL_law_635 : decode cL_law 635 = .ok (.iadd, 1) := by decide +kernel
theorem dL_law_636 : decode cL_law 636 = .ok (.iaload, 1) := by decide +kernel
theorem dL_law_637 : decode cL_law 637 = .ok (.invokevirtual 163, 3) := by decide +kernel
theorem dL_law_640 : decode cL_law 640 = .ok (.if_icmp .eq 1813, 3) := by decide +kernel
theorem dL_law_643 : decode cL_law 643 = .ok (.iconst 0, 1) := by decide +kernel
theorem dL_law_644 : decode cL_law 644 = .ok (.ireturn, 1) := by decide +kernel
theorem dL_law_645 : decode cL_law 645 = .ok (.aload_n 1, 1) := by decide +kernel
theorem dL_law_646 : decode cL_law 646 = .ok (.aload_n 0, 1) := by decide +kernel
theorem dL_law_647 : decode cL_law 647 = .ok (.iload 4, 2) := by decide +kernel
theorem dL_law_649 : decode cL_law 649 = .ok (.iconst 1, 1) := by decide +kernel
theorem dL_law_650 : decode cL_law 650 = .ok (.iadd, 1) := by decide +kernel
theorem dL_law_651 : decode cL_law 651 = .ok (.iaload, 1) := by decide +kernel
theorem dL_law_652 : decode cL_law 652 = .ok (.invokevirtual 164, 3) := by decide +kernel
theorem dL_law_655 : decode cL_law 655 = .ok (.aload_n 2, 1) := by decide +kernel
theorem dL_law_656 : decode cL_law 656 = .ok (.aload_n 0, 1) := by decide +kernel
theorem dL_law_657 : decode cL_law 657 = .ok (.iload 4, 2) := by decide +kernel
theorem dL_law_659 : decode cL_law 659 = .ok (.iconst 1, 1) := by decide +kernel
theorem dL_law_660 : decode cL_law 660 = .ok (.iadd, 1) := by decide +kernel
theorem dL_law_661 : decode cL_law 661 = .ok (.iaload, 1) := by decide +kernel
theorem dL_law_662 : decode cL_law 662 = .ok (.invokevirtual 167, 3) := by decide +kernel
theorem dL_law_665 : decode cL_law 665 = .ok (.if_icmp .eq 1788, 3) := by decide +kernel
theorem dL_law_668 : decode cL_law 668 = .ok (.iconst 0, 1) := by decide +kernel
theorem dL_law_669 : decode cL_law 669 = .ok (.ireturn, 1) := by decide +kernel
theorem dL_law_670 : decode cL_law 670 = .ok (.aload_n 1, 1) := by decide +kernel
theorem dL_law_671 : decode cL_law 671 = .ok (.aload_n 0, 1) := by decide +kernel
theorem dL_law_672 : decode cL_law 672 = .ok (.iload 4, 2) := by decide +kernel
theorem dL_law_674 : decode cL_law 674 = .ok (.iconst 1, 1) := by decide +kernel
theorem dL_law_675 : decode cL_law 675 = .ok (.iadd, 1) := by decide +kernel
theorem dL_law_676 : decode cL_law 676 = .ok (.iaload, 1) := by decide +kernel
theorem dL_law_677 : decode cL_law 677 = .ok (.aload_n 3, 1) := by decide +kernel
theorem dL_law_678 : decode cL_law 678 = .ok (.invokestatic 168, 3) := by decide +kernel
theorem dL_law_681 : decode cL_law 681 = .ok (.istore 5, 2) := by decide +kernel
theorem dL_law_683 : decode cL_law 683 = .ok (.aload_n 2, 1) := by decide +kernel
theorem dL_law_684 : decode cL_law 684 = .ok (.aload_n 0, 1) := by decide +kernel
theorem dL_law_685 : decode cL_law 685 = .ok (.iload 4, 2) := by decide +kernel
theorem dL_law_687 : decode cL_law 687 = .ok (.iconst 1, 1) := by decide +kernel
theorem dL_law_688 : decode cL_law 688 = .ok (.iadd, 1) := by decide +kernel
theorem dL_law_689 : decode cL_law 689 = .ok (.iaload, 1) := by decide +kernel
theorem dL_law_690 : decode cL_law 690 = .ok (.invokevirtual 170, 3) := by decide +kernel
theorem dL_law_693 : decode cL_law 693 = .ok (.istore 6, 2) := by decide +kernel
theorem dL_law_695 : decode cL_law 695 = .ok (.aload_n 2, 1) := by decide +kernel
theorem dL_law_696 : decode cL_law 696 = .ok (.invokevirtual 134, 3) := by decide +kernel
theorem dL_law_699 : decode cL_law 699 = .ok (.iload 5, 2) := by decide +kernel
theorem dL_law_701 : decode cL_law 701 = .ok (.if_icmp .eq 5, 3) := by decide +kernel
theorem dL_law_704 : decode cL_law 704 = .ok (.iconst 0, 1) := by decide +kernel
theorem dL_law_705 : decode cL_law 705 = .ok (.ireturn, 1) := by decide +kernel
theorem dL_law_706 : decode cL_law 706 = .ok (.iload 5, 2) := by decide +kernel
theorem dL_law_708 : decode cL_law 708 = .ok (.ifCond .ne 15, 3) := by decide +kernel
theorem dL_law_711 : decode cL_law 711 = .ok (.aload_n 3, 1) := by decide +kernel
theorem dL_law_712 : decode cL_law 712 = .ok (.iconst 0, 1) := by decide +kernel
theorem dL_law_713 : decode cL_law 713 = .ok (.laload, 1) := by decide +kernel
theorem dL_law_714 : decode cL_law 714 = .ok (.iload 6, 2) := by decide +kernel
theorem dL_law_716 : decode cL_law 716 = .ok (.i2l, 1) := by decide +kernel
theorem dL_law_717 : decode cL_law 717 = .ok (.lcmp, 1) := by decide +kernel
theorem dL_law_718 : decode cL_law 718 = .ok (.ifCond .eq 5, 3) := by decide +kernel
theorem dL_law_721 : decode cL_law 721 = .ok (.iconst 0, 1) := by decide +kernel
theorem dL_law_722 : decode cL_law 722 = .ok (.ireturn, 1) := by decide +kernel
theorem dL_law_723 : decode cL_law 723 = .ok (.goto 1730, 3) := by decide +kernel
theorem dL_law_726 : decode cL_law 726 = .ok (.aload_n 1, 1) := by decide +kernel
theorem dL_law_727 : decode cL_law 727 = .ok (.aload_n 0, 1) := by decide +kernel
theorem dL_law_728 : decode cL_law 728 = .ok (.iload 4, 2) := by decide +kernel
theorem dL_law_730 : decode cL_law 730 = .ok (.iconst 1, 1) := by decide +kernel
theorem dL_law_731 : decode cL_law 731 = .ok (.iadd, 1) := by decide +kernel
theorem dL_law_732 : decode cL_law 732 = .ok (.iaload, 1) := by decide +kernel
theorem dL_law_733 : decode cL_law 733 = .ok (.aload_n 3, 1) := by decide +kernel
theorem dL_law_734 : decode cL_law 734 = .ok (.invokestatic 171, 3) := by decide +kernel
theorem dL_law_737 : decode cL_law 737 = .ok (.istore 5, 2) := by decide +kernel
theorem dL_law_739 : decode cL_law 739 = .ok (.aload_n 2, 1) := by decide +kernel
theorem dL_law_740 : decode cL_law 740 = .ok (.aload_n 0, 1) := by decide +kernel
theorem dL_law_741 : decode cL_law 741 = .ok (.iload 4, 2) := by decide +kernel
theorem dL_law_743 : decode cL_law 743 = .ok (.iconst 1, 1) := by decide +kernel
theorem dL_law_744 : decode cL_law 744 = .ok (.iadd, 1) := by decide +kernel
theorem dL_law_745 : decode cL_law 745 = .ok (.iaload, 1) := by decide +kernel
theorem dL_law_746 : decode cL_law 746 = .ok (.invokevirtual 173, 3) := by decide +kernel
theorem dL_law_749 : decode cL_law 749 = .ok (.istore 6, 2) := by decide +kernel
theorem dL_law_751 : decode cL_law 751 = .ok (.aload_n 2, 1) := by decide +kernel
theorem dL_law_752 : decode cL_law 752 = .ok (.invokevirtual 134, 3) := by decide +kernel
theorem dL_law_755 : decode cL_law 755 = .ok (.iload 5, 2) := by decide +kernel
theorem dL_law_757 : decode cL_law 757 = .ok (.if_icmp .eq 5, 3) := by decide +kernel
theorem dL_law_760 : decode cL_law 760 = .ok (.iconst 0, 1) := by decide +kernel
theorem dL_law_761 : decode cL_law 761 = .ok (.ireturn, 1) := by decide +kernel
theorem dL_law_762 : decode cL_law 762 = .ok (.iload 5, 2) := by decide +kernel
theorem dL_law_764 : decode cL_law 764 = .ok (.ifCond .ne 15, 3) := by decide +kernel
theorem dL_law_767 : decode cL_law 767 = .ok (.aload_n 3, 1) := by decide +kernel
theorem dL_law_768 : decode cL_law 768 = .ok (.iconst 0, 1) := by decide +kernel
theorem dL_law_769 : decode cL_law 769 = .ok (.laload, 1) := by decide +kernel
theorem dL_law_770 : decode cL_law 770 = .ok (.iload 6, 2) := by decide +kernel
theorem dL_law_772 : decode cL_law 772 = .ok (.i2l, 1) := by decide +kernel
theorem dL_law_773 : decode cL_law 773 = .ok (.lcmp, 1) := by decide +kernel
theorem dL_law_774 : decode cL_law 774 = .ok (.ifCond .eq 5, 3) := by decide +kernel
theorem dL_law_777 : decode cL_law 777 = .ok (.iconst 0, 1) := by decide +kernel
theorem dL_law_778 : decode cL_law 778 = .ok (.ireturn, 1) := by decide +kernel
theorem dL_law_779 : decode cL_law 779 = .ok (.goto 1674, 3) := by decide +kernel
theorem dL_law_782 : decode cL_law 782 = .ok (.aload_n 1, 1) := by decide +kernel
theorem dL_law_783 : decode cL_law 783 = .ok (.aload_n 0, 1) := by decide +kernel
theorem dL_law_784 : decode cL_law 784 = .ok (.iload 4, 2) := by decide +kernel
theorem dL_law_786 : decode cL_law 786 = .ok (.iconst 1, 1) := by decide +kernel
theorem dL_law_787 : decode cL_law 787 = .ok (.iadd, 1) := by decide +kernel
theorem dL_law_788 : decode cL_law 788 = .ok (.iaload, 1) := by decide +kernel
theorem dL_law_789 : decode cL_law 789 = .ok (.aload_n 0, 1) := by decide +kernel
theorem dL_law_790 : decode cL_law 790 = .ok (.iload 4, 2) := by decide +kernel
theorem dL_law_792 : decode cL_law 792 = .ok (.iconst 2, 1) := by decide +kernel
theorem dL_law_793 : decode cL_law 793 = .ok (.iadd, 1) := by decide +kernel
theorem dL_law_794 : decode cL_law 794 = .ok (.iaload, 1) := by decide +kernel
theorem dL_law_795 : decode cL_law 795 = .ok (.aload_n 3, 1) := by decide +kernel
theorem dL_law_796 : decode cL_law 796 = .ok (.invokestatic 174, 3) := by decide +kernel
theorem dL_law_799 : decode cL_law 799 = .ok (.istore 5, 2) := by decide +kernel
theorem dL_law_801 : decode cL_law 801 = .ok (.aload_n 2, 1) := by decide +kernel
theorem dL_law_802 : decode cL_law 802 = .ok (.aload_n 0, 1) := by decide +kernel
theorem dL_law_803 : decode cL_law 803 = .ok (.iload 4, 2) := by decide +kernel
theorem dL_law_805 : decode cL_law 805 = .ok (.iconst 1, 1) := by decide +kernel
theorem dL_law_806 : decode cL_law 806 = .ok (.iadd, 1) := by decide +kernel
theorem dL_law_807 : decode cL_law 807 = .ok (.iaload, 1) := by decide +kernel
theorem dL_law_808 : decode cL_law 808 = .ok (.aload_n 0, 1) := by decide +kernel
theorem dL_law_809 : decode cL_law 809 = .ok (.iload 4, 2) := by decide +kernel
theorem dL_law_811 : decode cL_law 811 = .ok (.iconst 2, 1) := by decide +kernel
theorem dL_law_812 : decode cL_law 812 = .ok (.iadd, 1) := by decide +kernel
theorem dL_law_813 : decode cL_law 813 = .ok (.iaload, 1) := by decide +kernel
theorem dL_law_814 : decode cL_law 814 = .ok (.invokevirtual 176, 3) := by decide +kernel
theorem dL_law_817 : decode cL_law 817 = .ok (.istore 6, 2) := by decide +kernel
theorem dL_law_819 : decode cL_law 819 = .ok (.aload_n 2, 1) := by decide +kernel
theorem dL_law_820 : decode cL_law 820 = .ok (.invokevirtual 134, 3) := by decide +kernel
theorem dL_law_823 : decode cL_law 823 = .ok (.iload 5, 2) := by decide +kernel
theorem dL_law_825 : decode cL_law 825 = .ok (.if_icmp .eq 5, 3) := by decide +kernel
theorem dL_law_828 : decode cL_law 828 = .ok (.iconst 0, 1) := by decide +kernel
theorem dL_law_829 : decode cL_law 829 = .ok (.ireturn, 1) := by decide +kernel
theorem dL_law_830 : decode cL_law 830 = .ok (.iload 5, 2) := by decide +kernel
theorem dL_law_832 : decode cL_law 832 = .ok (.ifCond .ne 15, 3) := by decide +kernel
theorem dL_law_835 : decode cL_law 835 = .ok (.aload_n 3, 1) := by decide +kernel
theorem dL_law_836 : decode cL_law 836 = .ok (.iconst 0, 1) := by decide +kernel
theorem dL_law_837 : decode cL_law 837 = .ok (.laload, 1) := by decide +kernel
theorem dL_law_838 : decode cL_law 838 = .ok (.iload 6, 2) := by decide +kernel
theorem dL_law_840 : decode cL_law 840 = .ok (.i2l, 1) := by decide +kernel
theorem dL_law_841 : decode cL_law 841 = .ok (.lcmp, 1) := by decide +kernel
theorem dL_law_842 : decode cL_law 842 = .ok (.ifCond .eq 5, 3) := by decide +kernel
theorem dL_law_845 : decode cL_law 845 = .ok (.iconst 0, 1) := by decide +kernel
theorem dL_law_846 : decode cL_law 846 = .ok (.ireturn, 1) := by decide +kernel
theorem dL_law_847 : decode cL_law 847 = .ok (.goto 1606, 3) := by decide +kernel
theorem dL_law_850 : decode cL_law 850 = .ok (.aload_n 1, 1) := by decide +kernel
theorem dL_law_851 : decode cL_law 851 = .ok (.aload_n 0, 1) := by decide +kernel
theorem dL_law_852 : decode cL_law 852 = .ok (.iload 4, 2) := by decide +kernel
theorem dL_law_854 : decode cL_law 854 = .ok (.iconst 1, 1) := by decide +kernel
theorem dL_law_855 : decode cL_law 855 = .ok (.iadd, 1) := by decide +kernel
theorem dL_law_856 : decode cL_law 856 = .ok (.iaload, 1) := by decide +kernel
theorem dL_law_857 : decode cL_law 857 = .ok (.aload_n 3, 1) := by decide +kernel
theorem dL_law_858 : decode cL_law 858 = .ok (.invokestatic 177, 3) := by decide +kernel
theorem dL_law_861 : decode cL_law 861 = .ok (.istore 5, 2) := by decide +kernel
theorem dL_law_863 : decode cL_law 863 = .ok (.aload_n 2, 1) := by decide +kernel
theorem dL_law_864 : decode cL_law 864 = .ok (.aload_n 0, 1) := by decide +kernel
theorem dL_law_865 : decode cL_law 865 = .ok (.iload 4, 2) := by decide +kernel
theorem dL_law_867 : decode cL_law 867 = .ok (.iconst 1, 1) := by decide +kernel
theorem dL_law_868 : decode cL_law 868 = .ok (.iadd, 1) := by decide +kernel
theorem dL_law_869 : decode cL_law 869 = .ok (.iaload, 1) := by decide +kernel
theorem dL_law_870 : decode cL_law 870 = .ok (.invokevirtual 179, 3) := by decide +kernel
theorem dL_law_873 : decode cL_law 873 = .ok (.istore 6, 2) := by decide +kernel
theorem dL_law_875 : decode cL_law 875 = .ok (.aload_n 2, 1) := by decide +kernel
theorem dL_law_876 : decode cL_law 876 = .ok (.invokevirtual 134, 3) := by decide +kernel
theorem dL_law_879 : decode cL_law 879 = .ok (.iload 5, 2) := by decide +kernel
theorem dL_law_881 : decode cL_law 881 = .ok (.if_icmp .eq 5, 3) := by decide +kernel
theorem dL_law_884 : decode cL_law 884 = .ok (.iconst 0, 1) := by decide +kernel
theorem dL_law_885 : decode cL_law 885 = .ok (.ireturn, 1) := by decide +kernel
theorem dL_law_886 : decode cL_law 886 = .ok (.iload 5, 2) := by decide +kernel
theorem dL_law_888 : decode cL_law 888 = .ok (.ifCond .ne 15, 3) := by decide +kernel
theorem dL_law_891 : decode cL_law 891 = .ok (.aload_n 3, 1) := by decide +kernel
theorem dL_law_892 : decode cL_law 892 = .ok (.iconst 0, 1) := by decide +kernel
theorem dL_law_893 : decode cL_law 893 = .ok (.laload, 1) := by decide +kernel
theorem dL_law_894 : decode cL_law 894 = .ok (.iload 6, 2) := by decide +kernel
theorem dL_law_896 : decode cL_law 896 = .ok (.i2l, 1) := by decide +kernel
theorem dL_law_897 : decode cL_law 897 = .ok (.lcmp, 1) := by decide +kernel
theorem dL_law_898 : decode cL_law 898 = .ok (.ifCond .eq 5, 3) := by decide +kernel
theorem dL_law_901 : decode cL_law 901 = .ok (.iconst 0, 1) := by decide +kernel
theorem dL_law_902 : decode cL_law 902 = .ok (.ireturn, 1) := by decide +kernel
theorem dL_law_903 : decode cL_law 903 = .ok (.goto 1550, 3) := by decide +kernel
theorem dL_law_906 : decode cL_law 906 = .ok (.aload_n 1, 1) := by decide +kernel
theorem dL_law_907 : decode cL_law 907 = .ok (.aload_n 0, 1) := by decide +kernel
theorem dL_law_908 : decode cL_law 908 = .ok (.iload 4, 2) := by decide +kernel
theorem dL_law_910 : decode cL_law 910 = .ok (.iconst 1, 1) := by decide +kernel
theorem dL_law_911 : decode cL_law 911 = .ok (.iadd, 1) := by decide +kernel
theorem dL_law_912 : decode cL_law 912 = .ok (.iaload, 1) := by decide +kernel
theorem dL_law_913 : decode cL_law 913 = .ok (.aload_n 0, 1) := by decide +kernel
theorem dL_law_914 : decode cL_law 914 = .ok (.iload 4, 2) := by decide +kernel
theorem dL_law_916 : decode cL_law 916 = .ok (.iconst 2, 1) := by decide +kernel
theorem dL_law_917 : decode cL_law 917 = .ok (.iadd, 1) := by decide +kernel
theorem dL_law_918 : decode cL_law 918 = .ok (.iaload, 1) := by decide +kernel
theorem dL_law_919 : decode cL_law 919 = .ok (.aload_n 3, 1) := by decide +kernel
theorem dL_law_920 : decode cL_law 920 = .ok (.invokestatic 180, 3) := by decide +kernel
theorem dL_law_923 : decode cL_law 923 = .ok (.istore 5, 2) := by decide +kernel
theorem dL_law_925 : decode cL_law 925 = .ok (.aload_n 2, 1) := by decide +kernel
theorem dL_law_926 : decode cL_law 926 = .ok (.aload_n 0, 1) := by decide +kernel
theorem dL_law_927 : decode cL_law 927 = .ok (.iload 4, 2) := by decide +kernel
theorem dL_law_929 : decode cL_law 929 = .ok (.iconst 1, 1) := by decide +kernel
theorem dL_law_930 : decode cL_law 930 = .ok (.iadd, 1) := by decide +kernel
theorem dL_law_931 : decode cL_law 931 = .ok (.iaload, 1) := by decide +kernel
theorem dL_law_932 : decode cL_law 932 = .ok (.aload_n 0, 1) := by decide +kernel
theorem dL_law_933 : decode cL_law 933 = .ok (.iload 4, 2) := by decide +kernel
theorem dL_law_935 : decode cL_law 935 = .ok (.iconst 2, 1) := by decide +kernel
theorem dL_law_936 : decode cL_law 936 = .ok (.iadd, 1) := by decide +kernel
theorem dL_law_937 : decode cL_law 937 = .ok (.iaload, 1) := by decide +kernel
theorem dL_law_938 : decode cL_law 938 = .ok (.invokevirtual 182, 3) := by decide +kernel
theorem dL_law_941 : decode cL_law 941 = .ok (.istore 6, 2) := by decide +kernel
theorem dL_law_943 : decode cL_law 943 = .ok (.aload_n 2, 1) := by decide +kernel
theorem dL_law_944 : decode cL_law 944 = .ok (.invokevirtual 134, 3) := by decide +kernel
theorem dL_law_947 : decode cL_law 947 = .ok (.iload 5, 2) := by decide +kernel
theorem dL_law_949 : decode cL_law 949 = .ok (.if_icmp .eq 5, 3) := by decide +kernel
theorem dL_law_952 : decode cL_law 952 = .ok (.iconst 0, 1) := by decide +kernel
theorem dL_law_953 : decode cL_law 953 = .ok (.ireturn, 1) := by decide +kernel
theorem dL_law_954 : decode cL_law 954 = .ok (.iload 5, 2) := by decide +kernel
theorem dL_law_956 : decode cL_law 956 = .ok (.ifCond .ne 15, 3) := by decide +kernel
theorem dL_law_959 : decode cL_law 959 = .ok (.aload_n 3, 1) := by decide +kernel
theorem dL_law_960 : decode cL_law 960 = .ok (.iconst 0, 1) := by decide +kernel
theorem dL_law_961 : decode cL_law 961 = .ok (.laload, 1) := by decide +kernel
theorem dL_law_962 : decode cL_law 962 = .ok (.iload 6, 2) := by decide +kernel
theorem dL_law_964 : decode cL_law 964 = .ok (.i2l, 1) := by decide +kernel
theorem dL_law_965 : decode cL_law 965 = .ok (.lcmp, 1) := by decide +kernel
theorem dL_law_966 : decode cL_law 966 = .ok (.ifCond .eq 5, 3) := by decide +kernel
theorem dL_law_969 : decode cL_law 969 = .ok (.iconst 0, 1) := by decide +kernel
theorem dL_law_970 : decode cL_law 970 = .ok (.ireturn, 1) := by decide +kernel
theorem dL_law_971 : decode cL_law 971 = .ok (.goto 1482, 3) := by decide +kernel
theorem dL_law_974 : decode cL_law 974 = .ok (.aload_n 1, 1) := by decide +kernel
theorem dL_law_975 : decode cL_law 975 = .ok (.aload_n 0, 1) := by decide +kernel
theorem dL_law_976 : decode cL_law 976 = .ok (.iload 4, 2) := by decide +kernel
theorem dL_law_978 : decode cL_law 978 = .ok (.iconst 1, 1) := by decide +kernel
theorem dL_law_979 : decode cL_law 979 = .ok (.iadd, 1) := by decide +kernel
theorem dL_law_980 : decode cL_law 980 = .ok (.iaload, 1) := by decide +kernel
theorem dL_law_981 : decode cL_law 981 = .ok (.aload_n 0, 1) := by decide +kernel
theorem dL_law_982 : decode cL_law 982 = .ok (.iload 4, 2) := by decide +kernel
theorem dL_law_984 : decode cL_law 984 = .ok (.iconst 2, 1) := by decide +kernel
theorem dL_law_985 : decode cL_law 985 = .ok (.iadd, 1) := by decide +kernel
theorem dL_law_986 : decode cL_law 986 = .ok (.iaload, 1) := by decide +kernel
theorem dL_law_987 : decode cL_law 987 = .ok (.aload_n 3, 1) := by decide +kernel
theorem dL_law_988 : decode cL_law 988 = .ok (.invokestatic 183, 3) := by decide +kernel
theorem dL_law_991 : decode cL_law 991 = .ok (.istore 5, 2) := by decide +kernel
theorem dL_law_993 : decode cL_law 993 = .ok (.aload_n 2, 1) := by decide +kernel
theorem dL_law_994 : decode cL_law 994 = .ok (.aload_n 0, 1) := by decide +kernel
theorem dL_law_995 : decode cL_law 995 = .ok (.iload 4, 2) := by decide +kernel
theorem dL_law_997 : decode cL_law 997 = .ok (.iconst 1, 1) := by decide +kernel
theorem dL_law_998 : decode cL_law 998 = .ok (.iadd, 1) := by decide +kernel
theorem dL_law_999 : decode cL_law 999 = .ok (.iaload, 1) := by decide +kernel
theorem dL_law_1000 : decode cL_law 1000 = .ok (.aload_n 0, 1) := by decide +kernel
theorem dL_law_1001 : decode cL_law 1001 = .ok (.iload 4, 2) := by decide +kernel
theorem dL_law_1003 : decode cL_law 1003 = .ok (.iconst 2, 1) := by decide +kernel
theorem dL_law_1004 : decode cL_law 1004 = .ok (.iadd, 1) := by decide +kernel
theorem dL_law_1005 : decode cL_law 1005 = .ok (.iaload, 1) := by decide +kernel
theorem dL_law_1006 : decode cL_law 1006 = .ok (.invokevirtual 185, 3) := by decide +kernel
theorem dL_law_1009 : decode cL_law 1009 = .ok (.istore 6, 2) := by decide +kernel
theorem dL_law_1011 : decode cL_law 1011 = .ok (.aload_n 2, 1) := by decide +kernel
theorem dL_law_1012 : decode cL_law 1012 = .ok (.invokevirtual 134, 3) := by decide +kernel
theorem dL_law_1015 : decode cL_law 1015 = .ok (.iload 5, 2) := by decide +kernel
theorem dL_law_1017 : decode cL_law 1017 = .ok (.if_icmp .eq 5, 3) := by decide +kernel
theorem dL_law_1020 : decode cL_law 1020 = .ok (.iconst 0, 1) := by decide +kernel
theorem dL_law_1021 : decode cL_law 1021 = .ok (.ireturn, 1) := by decide +kernel
theorem dL_law_1022 : decode cL_law 1022 = .ok (.iload 5, 2) := by decide +kernel
theorem dL_law_1024 : decode cL_law 1024 = .ok (.ifCond .ne 15, 3) := by decide +kernel
theorem dL_law_1027 : decode cL_law 1027 = .ok (.aload_n 3, 1) := by decide +kernel
theorem dL_law_1028 : decode cL_law 1028 = .ok (.iconst 0, 1) := by decide +kernel
theorem dL_law_1029 : decode cL_law 1029 = .ok (.laload, 1) := by decide +kernel
theorem dL_law_1030 : decode cL_law 1030 = .ok (.iload 6, 2) := by decide +kernel
theorem dL_law_1032 : decode cL_law 1032 = .ok (.i2l, 1) := by decide +kernel
theorem dL_law_1033 : decode cL_law 1033 = .ok (.lcmp, 1) := by decide +kernel
theorem dL_law_1034 : decode cL_law 1034 = .ok (.ifCond .eq 5, 3) := by decide +kernel
theorem dL_law_1037 : decode cL_law 1037 = .ok (.iconst 0, 1) := by decide +kernel
theorem dL_law_1038 : decode cL_law 1038 = .ok (.ireturn, 1) := by decide +kernel
theorem dL_law_1039 : decode cL_law 1039 = .ok (.goto 1414, 3) := by decide +kernel
theorem dL_law_1042 : decode cL_law 1042 = .ok (.aload_n 1, 1) := by decide +kernel
theorem dL_law_1043 : decode cL_law 1043 = .ok (.aload_n 0, 1) := by decide +kernel
theorem dL_law_1044 : decode cL_law 1044 = .ok (.iload 4, 2) := by decide +kernel
theorem dL_law_1046 : decode cL_law 1046 = .ok (.iconst 1, 1) := by decide +kernel
theorem dL_law_1047 : decode cL_law 1047 = .ok (.iadd, 1) := by decide +kernel
theorem dL_law_1048 : decode cL_law 1048 = .ok (.iaload, 1) := by decide +kernel
theorem dL_law_1049 : decode cL_law 1049 = .ok (.aload_n 3, 1) := by decide +kernel
theorem dL_law_1050 : decode cL_law 1050 = .ok (.invokestatic 186, 3) := by decide +kernel
theorem dL_law_1053 : decode cL_law 1053 = .ok (.istore 5, 2) := by decide +kernel
theorem dL_law_1055 : decode cL_law 1055 = .ok (.aload_n 2, 1) := by decide +kernel
theorem dL_law_1056 : decode cL_law 1056 = .ok (.aload_n 0, 1) := by decide +kernel
theorem dL_law_1057 : decode cL_law 1057 = .ok (.iload 4, 2) := by decide +kernel
theorem dL_law_1059 : decode cL_law 1059 = .ok (.iconst 1, 1) := by decide +kernel
theorem dL_law_1060 : decode cL_law 1060 = .ok (.iadd, 1) := by decide +kernel
theorem dL_law_1061 : decode cL_law 1061 = .ok (.iaload, 1) := by decide +kernel
theorem dL_law_1062 : decode cL_law 1062 = .ok (.invokevirtual 188, 3) := by decide +kernel
theorem dL_law_1065 : decode cL_law 1065 = .ok (.istore 6, 2) := by decide +kernel
theorem dL_law_1067 : decode cL_law 1067 = .ok (.aload_n 2, 1) := by decide +kernel
theorem dL_law_1068 : decode cL_law 1068 = .ok (.invokevirtual 134, 3) := by decide +kernel
theorem dL_law_1071 : decode cL_law 1071 = .ok (.iload 5, 2) := by decide +kernel
theorem dL_law_1073 : decode cL_law 1073 = .ok (.if_icmp .eq 5, 3) := by decide +kernel
theorem dL_law_1076 : decode cL_law 1076 = .ok (.iconst 0, 1) := by decide +kernel
theorem dL_law_1077 : decode cL_law 1077 = .ok (.ireturn, 1) := by decide +kernel
theorem dL_law_1078 : decode cL_law 1078 = .ok (.iload 5, 2) := by decide +kernel
theorem dL_law_1080 : decode cL_law 1080 = .ok (.ifCond .ne 15, 3) := by decide +kernel
theorem dL_law_1083 : decode cL_law 1083 = .ok (.aload_n 3, 1) := by decide +kernel
theorem dL_law_1084 : decode cL_law 1084 = .ok (.iconst 0, 1) := by decide +kernel
theorem dL_law_1085 : decode cL_law 1085 = .ok (.laload, 1) := by decide +kernel
theorem dL_law_1086 : decode cL_law 1086 = .ok (.iload 6, 2) := by decide +kernel
theorem dL_law_1088 : decode cL_law 1088 = .ok (.i2l, 1) := by decide +kernel
theorem dL_law_1089 : decode cL_law 1089 = .ok (.lcmp, 1) := by decide +kernel
theorem dL_law_1090 : decode cL_law 1090 = .ok (.ifCond .eq 5, 3) := by decide +kernel
theorem dL_law_1093 : decode cL_law 1093 = .ok (.iconst 0, 1) := by decide +kernel
theorem dL_law_1094 : decode cL_law 1094 = .ok (.ireturn, 1) := by decide +kernel
theorem dL_law_1095 : decode cL_law 1095 = .ok (.goto 1358, 3) := by decide +kernel
theorem dL_law_1098 : decode cL_law 1098 = .ok (.aload_n 1, 1) := by decide +kernel
theorem dL_law_1099 : decode cL_law 1099 = .ok (.aload_n 0, 1) := by decide +kernel
theorem dL_law_1100 : decode cL_law 1100 = .ok (.iload 4, 2) := by decide +kernel
theorem dL_law_1102 : decode cL_law 1102 = .ok (.iconst 1, 1) := by decide +kernel
theorem dL_law_1103 : decode cL_law 1103 = .ok (.iadd, 1) := by decide +kernel
theorem dL_law_1104 : decode cL_law 1104 = .ok (.iaload, 1) := by decide +kernel
theorem dL_law_1105 : decode cL_law 1105 = .ok (.aload_n 0, 1) := by decide +kernel
theorem dL_law_1106 : decode cL_law 1106 = .ok (.iload 4, 2) := by decide +kernel
theorem dL_law_1108 : decode cL_law 1108 = .ok (.iconst 2, 1) := by decide +kernel
theorem dL_law_1109 : decode cL_law 1109 = .ok (.iadd, 1) := by decide +kernel
theorem dL_law_1110 : decode cL_law 1110 = .ok (.iaload, 1) := by decide +kernel
theorem dL_law_1111 : decode cL_law 1111 = .ok (.aload_n 3, 1) := by decide +kernel
theorem dL_law_1112 : decode cL_law 1112 = .ok (.invokestatic 189, 3) := by decide +kernel
theorem dL_law_1115 : decode cL_law 1115 = .ok (.istore 5, 2) := by decide +kernel
theorem dL_law_1117 : decode cL_law 1117 = .ok (.aload_n 2, 1) := by decide +kernel
theorem dL_law_1118 : decode cL_law 1118 = .ok (.aload_n 0, 1) := by decide +kernel
theorem dL_law_1119 : decode cL_law 1119 = .ok (.iload 4, 2) := by decide +kernel
theorem dL_law_1121 : decode cL_law 1121 = .ok (.iconst 1, 1) := by decide +kernel
theorem dL_law_1122 : decode cL_law 1122 = .ok (.iadd, 1) := by decide +kernel
theorem dL_law_1123 : decode cL_law 1123 = .ok (.iaload, 1) := by decide +kernel
theorem dL_law_1124 : decode cL_law 1124 = .ok (.aload_n 0, 1) := by decide +kernel
theorem dL_law_1125 : decode cL_law 1125 = .ok (.iload 4, 2) := by decide +kernel
theorem dL_law_1127 : decode cL_law 1127 = .ok (.iconst 2, 1) := by decide +kernel
theorem dL_law_1128 : decode cL_law 1128 = .ok (.iadd, 1) := by decide +kernel
theorem dL_law_1129 : decode cL_law 1129 = .ok (.iaload, 1) := by decide +kernel
theorem dL_law_1130 : decode cL_law 1130 = .ok (.invokevirtual 191, 3) := by decide +kernel
theorem dL_law_1133 : decode cL_law 1133 = .ok (.istore 6, 2) := by decide +kernel
theorem dL_law_1135 : decode cL_law 1135 = .ok (.aload_n 2, 1) := by decide +kernel
theorem dL_law_1136 : decode cL_law 1136 = .ok (.invokevirtual 134, 3) := by decide +kernel
theorem dL_law_1139 : decode cL_law 1139 = .ok (.iload 5, 2) := by decide +kernel
theorem dL_law_1141 : decode cL_law 1141 = .ok (.if_icmp .eq 5, 3) := by decide +kernel
theorem dL_law_1144 : decode cL_law 1144 = .ok (.iconst 0, 1) := by decide +kernel
theorem dL_law_1145 : decode cL_law 1145 = .ok (.ireturn, 1) := by decide +kernel
theorem dL_law_1146 : decode cL_law 1146 = .ok (.iload 5, 2) := by decide +kernel
theorem dL_law_1148 : decode cL_law 1148 = .ok (.ifCond .ne 15, 3) := by decide +kernel
theorem dL_law_1151 : decode cL_law 1151 = .ok (.aload_n 3, 1) := by decide +kernel
theorem dL_law_1152 : decode cL_law 1152 = .ok (.iconst 0, 1) := by decide +kernel
theorem dL_law_1153 : decode cL_law 1153 = .ok (.laload, 1) := by decide +kernel
theorem dL_law_1154 : decode cL_law 1154 = .ok (.iload 6, 2) := by decide +kernel
theorem dL_law_1156 : decode cL_law 1156 = .ok (.i2l, 1) := by decide +kernel
theorem dL_law_1157 : decode cL_law 1157 = .ok (.lcmp, 1) := by decide +kernel
theorem dL_law_1158 : decode cL_law 1158 = .ok (.ifCond .eq 5, 3) := by decide +kernel
theorem dL_law_1161 : decode cL_law 1161 = .ok (.iconst 0, 1) := by decide +kernel
theorem dL_law_1162 : decode cL_law 1162 = .ok (.ireturn, 1) := by decide +kernel
theorem dL_law_1163 : decode cL_law 1163 = .ok (.goto 1290, 3) := by decide +kernel
theorem dL_law_1166 : decode cL_law 1166 = .ok (.aload_n 1, 1) := by decide +kernel
theorem dL_law_1167 : decode cL_law 1167 = .ok (.invokevirtual 192, 3) := by decide +kernel
theorem dL_law_1170 : decode cL_law 1170 = .ok (.aload_n 2, 1) := by decide +kernel
theorem dL_law_1171 : decode cL_law 1171 = .ok (.invokevirtual 195, 3) := by decide +kernel
theorem dL_law_1174 : decode cL_law 1174 = .ok (.if_icmp .eq 1279, 3) := by decide +kernel
theorem dL_law_1177 : decode cL_law 1177 = .ok (.iconst 0, 1) := by decide +kernel
theorem dL_law_1178 : decode cL_law 1178 = .ok (.ireturn, 1) := by decide +kernel
theorem dL_law_1179 : decode cL_law 1179 = .ok (.aload_n 1, 1) := by decide +kernel
theorem dL_law_1180 : decode cL_law 1180 = .ok (.invokevirtual 196, 3) := by decide +kernel
theorem dL_law_1183 : decode cL_law 1183 = .ok (.aload_n 2, 1) := by decide +kernel
theorem dL_law_1184 : decode cL_law 1184 = .ok (.invokevirtual 199, 3) := by decide +kernel
theorem dL_law_1187 : decode cL_law 1187 = .ok (.if_icmp .eq 1266, 3) := by decide +kernel
theorem dL_law_1190 : decode cL_law 1190 = .ok (.iconst 0, 1) := by decide +kernel
theorem dL_law_1191 : decode cL_law 1191 = .ok (.ireturn, 1) := by decide +kernel
theorem dL_law_1192 : decode cL_law 1192 = .ok (.aload_n 1, 1) := by decide +kernel
theorem dL_law_1193 : decode cL_law 1193 = .ok (.aload_n 0, 1) := by decide +kernel
theorem dL_law_1194 : decode cL_law 1194 = .ok (.iload 4, 2) := by decide +kernel
theorem dL_law_1196 : decode cL_law 1196 = .ok (.iconst 1, 1) := by decide +kernel
theorem dL_law_1197 : decode cL_law 1197 = .ok (.iadd, 1) := by decide +kernel
theorem dL_law_1198 : decode cL_law 1198 = .ok (.iaload, 1) := by decide +kernel
theorem dL_law_1199 : decode cL_law 1199 = .ok (.aload_n 3, 1) := by decide +kernel
theorem dL_law_1200 : decode cL_law 1200 = .ok (.invokestatic 200, 3) := by decide +kernel
theorem dL_law_1203 : decode cL_law 1203 = .ok (.istore 5, 2) := by decide +kernel
theorem dL_law_1205 : decode cL_law 1205 = .ok (.aload_n 2, 1) := by decide +kernel
theorem dL_law_1206 : decode cL_law 1206 = .ok (.aload_n 0, 1) := by decide +kernel
theorem dL_law_1207 : decode cL_law 1207 = .ok (.iload 4, 2) := by decide +kernel
theorem dL_law_1209 : decode cL_law 1209 = .ok (.iconst 1, 1) := by decide +kernel
theorem dL_law_1210 : decode cL_law 1210 = .ok (.iadd, 1) := by decide +kernel
theorem dL_law_1211 : decode cL_law 1211 = .ok (.iaload, 1) := by decide +kernel
theorem dL_law_1212 : decode cL_law 1212 = .ok (.invokevirtual 202, 3) := by decide +kernel
theorem dL_law_1215 : decode cL_law 1215 = .ok (.istore 6, 2) := by decide +kernel
theorem dL_law_1217 : decode cL_law 1217 = .ok (.aload_n 2, 1) := by decide +kernel
theorem dL_law_1218 : decode cL_law 1218 = .ok (.invokevirtual 134, 3) := by decide +kernel
theorem dL_law_1221 : decode cL_law 1221 = .ok (.iload 5, 2) := by decide +kernel
theorem dL_law_1223 : decode cL_law 1223 = .ok (.if_icmp .eq 5, 3) := by decide +kernel
theorem dL_law_1226 : decode cL_law 1226 = .ok (.iconst 0, 1) := by decide +kernel
theorem dL_law_1227 : decode cL_law 1227 = .ok (.ireturn, 1) := by decide +kernel
theorem dL_law_1228 : decode cL_law 1228 = .ok (.iload 5, 2) := by decide +kernel
theorem dL_law_1230 : decode cL_law 1230 = .ok (.ifCond .ne 15, 3) := by decide +kernel
theorem dL_law_1233 : decode cL_law 1233 = .ok (.aload_n 3, 1) := by decide +kernel
theorem dL_law_1234 : decode cL_law 1234 = .ok (.iconst 0, 1) := by decide +kernel
theorem dL_law_1235 : decode cL_law 1235 = .ok (.laload, 1) := by decide +kernel
theorem dL_law_1236 : decode cL_law 1236 = .ok (.iload 6, 2) := by decide +kernel
theorem dL_law_1238 : decode cL_law 1238 = .ok (.i2l, 1) := by decide +kernel
theorem dL_law_1239 : decode cL_law 1239 = .ok (.lcmp, 1) := by decide +kernel
theorem dL_law_1240 : decode cL_law 1240 = .ok (.ifCond .eq 5, 3) := by decide +kernel
theorem dL_law_1243 : decode cL_law 1243 = .ok (.iconst 0, 1) := by decide +kernel
theorem dL_law_1244 : decode cL_law 1244 = .ok (.ireturn, 1) := by decide +kernel
theorem dL_law_1245 : decode cL_law 1245 = .ok (.goto 1208, 3) := by decide +kernel
theorem dL_law_1248 : decode cL_law 1248 = .ok (.aload_n 1, 1) := by decide +kernel
theorem dL_law_1249 : decode cL_law 1249 = .ok (.invokevirtual 203, 3) := by decide +kernel
theorem dL_law_1252 : decode cL_law 1252 = .ok (.aload_n 2, 1) := by decide +kernel
theorem dL_law_1253 : decode cL_law 1253 = .ok (.invokevirtual 206, 3) := by decide +kernel
theorem dL_law_1256 : decode cL_law 1256 = .ok (.if_icmp .eq 1197, 3) := by decide +kernel
theorem dL_law_1259 : decode cL_law 1259 = .ok (.iconst 0, 1) := by decide +kernel
theorem dL_law_1260 : decode cL_law 1260 = .ok (.ireturn, 1) := by decide +kernel
theorem dL_law_1261 : decode cL_law 1261 = .ok (.aload_n 1, 1) := by decide +kernel
theorem dL_law_1262 : decode cL_law 1262 = .ok (.aload_n 0, 1) := by decide +kernel
theorem dL_law_1263 : decode cL_law 1263 = .ok (.iload 4, 2) := by decide +kernel
theorem dL_law_1265 : decode cL_law 1265 = .ok (.iconst 1, 1) := by decide +kernel
theorem dL_law_1266 : decode cL_law 1266 = .ok (.iadd, 1) := by decide +kernel
theorem dL_law_1267 : decode cL_law 1267 = .ok (.iaload, 1) := by decide +kernel
theorem dL_law_1268 : decode cL_law 1268 = .ok (.aload_n 3, 1) := by decide +kernel
theorem dL_law_1269 : decode cL_law 1269 = .ok (.invokestatic 207, 3) := by decide +kernel
theorem dL_law_1272 : decode cL_law 1272 = .ok (.istore 5, 2) := by decide +kernel
theorem dL_law_1274 : decode cL_law 1274 = .ok (.aload_n 2, 1) := by decide +kernel
theorem dL_law_1275 : decode cL_law 1275 = .ok (.aload_n 0, 1) := by decide +kernel
theorem dL_law_1276 : decode cL_law 1276 = .ok (.iload 4, 2) := by decide +kernel
theorem dL_law_1278 : decode cL_law 1278 = .ok (.iconst 1, 1) := by decide +kernel
theorem dL_law_1279 : decode cL_law 1279 = .ok (.iadd, 1) := by decide +kernel
theorem dL_law_1280 : decode cL_law 1280 = .ok (.iaload, 1) := by decide +kernel
theorem dL_law_1281 : decode cL_law 1281 = .ok (.invokevirtual 209, 3) := by decide +kernel
theorem dL_law_1284 : decode cL_law 1284 = .ok (.istore 6, 2) := by decide +kernel
theorem dL_law_1286 : decode cL_law 1286 = .ok (.aload_n 2, 1) := by decide +kernel
theorem dL_law_1287 : decode cL_law 1287 = .ok (.invokevirtual 134, 3) := by decide +kernel
theorem dL_law_1290 : decode cL_law 1290 = .ok (.iload 5, 2) := by decide +kernel
theorem dL_law_1292 : decode cL_law 1292 = .ok (.if_icmp .eq 5, 3) := by decide +kernel
theorem dL_law_1295 : decode cL_law 1295 = .ok (.iconst 0, 1) := by decide +kernel
theorem dL_law_1296 : decode cL_law 1296 = .ok (.ireturn, 1) := by decide +kernel
theorem dL_law_1297 : decode cL_law 1297 = .ok (.iload 5, 2) := by decide +kernel
theorem dL_law_1299 : decode cL_law 1299 = .ok (.ifCond .ne 15, 3) := by decide +kernel
theorem dL_law_1302 : decode cL_law 1302 = .ok (.aload_n 3, 1) := by decide +kernel
theorem dL_law_1303 : decode cL_law 1303 = .ok (.iconst 0, 1) := by decide +kernel
theorem dL_law_1304 : decode cL_law 1304 = .ok (.laload, 1) := by decide +kernel
theorem dL_law_1305 : decode cL_law 1305 = .ok (.iload 6, 2) := by decide +kernel
theorem dL_law_1307 : decode cL_law 1307 = .ok (.i2l, 1) := by decide +kernel
theorem dL_law_1308 : decode cL_law 1308 = .ok (.lcmp, 1) := by decide +kernel
theorem dL_law_1309 : decode cL_law 1309 = .ok (.ifCond .eq 5, 3) := by decide +kernel
theorem dL_law_1312 : decode cL_law 1312 = .ok (.iconst 0, 1) := by decide +kernel
theorem dL_law_1313 : decode cL_law 1313 = .ok (.ireturn, 1) := by decide +kernel
theorem dL_law_1314 : decode cL_law 1314 = .ok (.goto 1139, 3) := by decide +kernel
theorem dL_law_1317 : decode cL_law 1317 = .ok (.aload_n 1, 1) := by decide +kernel
theorem dL_law_1318 : decode cL_law 1318 = .ok (.aload_n 0, 1) := by decide +kernel
theorem dL_law_1319 : decode cL_law 1319 = .ok (.iload 4, 2) := by decide +kernel
theorem dL_law_1321 : decode cL_law 1321 = .ok (.iconst 1, 1) := by decide +kernel
theorem dL_law_1322 : decode cL_law 1322 = .ok (.iadd, 1) := by decide +kernel
theorem dL_law_1323 : decode cL_law 1323 = .ok (.iaload, 1) := by decide +kernel
theorem dL_law_1324 : decode cL_law 1324 = .ok (.aload_n 0, 1) := by decide +kernel
theorem dL_law_1325 : decode cL_law 1325 = .ok (.iload 4, 2) := by decide +kernel
theorem dL_law_1327 : decode cL_law 1327 = .ok (.iconst 2, 1) := by decide +kernel
theorem dL_law_1328 : decode cL_law 1328 = .ok (.iadd, 1) := by decide +kernel
theorem dL_law_1329 : decode cL_law 1329 = .ok (.iaload, 1) := by decide +kernel
theorem dL_law_1330 : decode cL_law 1330 = .ok (.aload_n 3, 1) := by decide +kernel
theorem dL_law_1331 : decode cL_law 1331 = .ok (.invokestatic 210, 3) := by decide +kernel
theorem dL_law_1334 : decode cL_law 1334 = .ok (.istore 5, 2) := by decide +kernel
theorem dL_law_1336 : decode cL_law 1336 = .ok (.aload_n 2, 1) := by decide +kernel
theorem dL_law_1337 : decode cL_law 1337 = .ok (.aload_n 0, 1) := by decide +kernel
theorem dL_law_1338 : decode cL_law 1338 = .ok (.iload 4, 2) := by decide +kernel
theorem dL_law_1340 : decode cL_law 1340 = .ok (.iconst 1, 1) := by decide +kernel
theorem dL_law_1341 : decode cL_law 1341 = .ok (.iadd, 1) := by decide +kernel
theorem dL_law_1342 : decode cL_law 1342 = .ok (.iaload, 1) := by decide +kernel
theorem dL_law_1343 : decode cL_law 1343 = .ok (.aload_n 0, 1) := by decide +kernel
theorem dL_law_1344 : decode cL_law 1344 = .ok (.iload 4, 2) := by decide +kernel
theorem dL_law_1346 : decode cL_law 1346 = .ok (.iconst 2, 1) := by decide +kernel
theorem dL_law_1347 : decode cL_law 1347 = .ok (.iadd, 1) := by decide +kernel
theorem dL_law_1348 : decode cL_law 1348 = .ok (.iaload, 1) := by decide +kernel
theorem dL_law_1349 : decode cL_law 1349 = .ok (.invokevirtual 212, 3) := by decide +kernel
theorem dL_law_1352 : decode cL_law 1352 = .ok (.istore 6, 2) := by decide +kernel
theorem dL_law_1354 : decode cL_law 1354 = .ok (.aload_n 2, 1) := by decide +kernel
theorem dL_law_1355 : decode cL_law 1355 = .ok (.invokevirtual 134, 3) := by decide +kernel
theorem dL_law_1358 : decode cL_law 1358 = .ok (.iload 5, 2) := by decide +kernel
theorem dL_law_1360 : decode cL_law 1360 = .ok (.if_icmp .eq 5, 3) := by decide +kernel
theorem dL_law_1363 : decode cL_law 1363 = .ok (.iconst 0, 1) := by decide +kernel
theorem dL_law_1364 : decode cL_law 1364 = .ok (.ireturn, 1) := by decide +kernel
theorem dL_law_1365 : decode cL_law 1365 = .ok (.iload 5, 2) := by decide +kernel
theorem dL_law_1367 : decode cL_law 1367 = .ok (.ifCond .ne 15, 3) := by decide +kernel
theorem dL_law_1370 : decode cL_law 1370 = .ok (.aload_n 3, 1) := by decide +kernel
theorem dL_law_1371 : decode cL_law 1371 = .ok (.iconst 0, 1) := by decide +kernel
theorem dL_law_1372 : decode cL_law 1372 = .ok (.laload, 1) := by decide +kernel
theorem dL_law_1373 : decode cL_law 1373 = .ok (.iload 6, 2) := by decide +kernel
theorem dL_law_1375 : decode cL_law 1375 = .ok (.i2l, 1) := by decide +kernel
theorem dL_law_1376 : decode cL_law 1376 = .ok (.lcmp, 1) := by decide +kernel
theorem dL_law_1377 : decode cL_law 1377 = .ok (.ifCond .eq 5, 3) := by decide +kernel
theorem dL_law_1380 : decode cL_law 1380 = .ok (.iconst 0, 1) := by decide +kernel
theorem dL_law_1381 : decode cL_law 1381 = .ok (.ireturn, 1) := by decide +kernel
theorem dL_law_1382 : decode cL_law 1382 = .ok (.goto 1071, 3) := by decide +kernel
theorem dL_law_1385 : decode cL_law 1385 = .ok (.aload_n 1, 1) := by decide +kernel
theorem dL_law_1386 : decode cL_law 1386 = .ok (.aload_n 0, 1) := by decide +kernel
theorem dL_law_1387 : decode cL_law 1387 = .ok (.iload 4, 2) := by decide +kernel
theorem dL_law_1389 : decode cL_law 1389 = .ok (.iconst 1, 1) := by decide +kernel
theorem dL_law_1390 : decode cL_law 1390 = .ok (.iadd, 1) := by decide +kernel
theorem dL_law_1391 : decode cL_law 1391 = .ok (.iaload, 1) := by decide +kernel
theorem dL_law_1392 : decode cL_law 1392 = .ok (.aload_n 3, 1) := by decide +kernel
theorem dL_law_1393 : decode cL_law 1393 = .ok (.invokestatic 213, 3) := by decide +kernel
theorem dL_law_1396 : decode cL_law 1396 = .ok (.istore 5, 2) := by decide +kernel
theorem dL_law_1398 : decode cL_law 1398 = .ok (.aload_n 2, 1) := by decide +kernel
theorem dL_law_1399 : decode cL_law 1399 = .ok (.aload_n 0, 1) := by decide +kernel
theorem dL_law_1400 : decode cL_law 1400 = .ok (.iload 4, 2) := by decide +kernel
theorem dL_law_1402 : decode cL_law 1402 = .ok (.iconst 1, 1) := by decide +kernel
theorem dL_law_1403 : decode cL_law 1403 = .ok (.iadd, 1) := by decide +kernel
theorem dL_law_1404 : decode cL_law 1404 = .ok (.iaload, 1) := by decide +kernel
theorem dL_law_1405 : decode cL_law 1405 = .ok (.invokevirtual 215, 3) := by decide +kernel
theorem dL_law_1408 : decode cL_law 1408 = .ok (.istore 6, 2) := by decide +kernel
theorem dL_law_1410 : decode cL_law 1410 = .ok (.aload_n 2, 1) := by decide +kernel
theorem dL_law_1411 : decode cL_law 1411 = .ok (.invokevirtual 134, 3) := by decide +kernel
theorem dL_law_1414 : decode cL_law 1414 = .ok (.iload 5, 2) := by decide +kernel
theorem dL_law_1416 : decode cL_law 1416 = .ok (.if_icmp .eq 5, 3) := by decide +kernel
theorem dL_law_1419 : decode cL_law 1419 = .ok (.iconst 0, 1) := by decide +kernel
theorem dL_law_1420 : decode cL_law 1420 = .ok (.ireturn, 1) := by decide +kernel
theorem dL_law_1421 : decode cL_law 1421 = .ok (.iload 5, 2) := by decide +kernel
theorem dL_law_1423 : decode cL_law 1423 = .ok (.ifCond .ne 15, 3) := by decide +kernel
theorem dL_law_1426 : decode cL_law 1426 = .ok (.aload_n 3, 1) := by decide +kernel
theorem dL_law_1427 : decode cL_law 1427 = .ok (.iconst 0, 1) := by decide +kernel
theorem dL_law_1428 : decode cL_law 1428 = .ok (.laload, 1) := by decide +kernel
theorem dL_law_1429 : decode cL_law 1429 = .ok (.iload 6, 2) := by decide +kernel
theorem dL_law_1431 : decode cL_law 1431 = .ok (.i2l, 1) := by decide +kernel
theorem dL_law_1432 : decode cL_law 1432 = .ok (.lcmp, 1) := by decide +kernel
theorem dL_law_1433 : decode cL_law 1433 = .ok (.ifCond .eq 5, 3) := by decide +kernel
theorem dL_law_1436 : decode cL_law 1436 = .ok (.iconst 0, 1) := by decide +kernel
theorem dL_law_1437 : decode cL_law 1437 = .ok (.ireturn, 1) := by decide +kernel
theorem dL_law_1438 : decode cL_law 1438 = .ok (.goto 1015, 3) := by decide +kernel
theorem dL_law_1441 : decode cL_law 1441 = .ok (.aload_n 1, 1) := by decide +kernel
theorem dL_law_1442 : decode cL_law 1442 = .ok (.aload_n 0, 1) := by decide +kernel
theorem dL_law_1443 : decode cL_law 1443 = .ok (.iload 4, 2) := by decide +kernel
theorem dL_law_1445 : decode cL_law 1445 = .ok (.iconst 1, 1) := by decide +kernel
theorem dL_law_1446 : decode cL_law 1446 = .ok (.iadd, 1) := by decide +kernel
theorem dL_law_1447 : decode cL_law 1447 = .ok (.iaload, 1) := by decide +kernel
theorem dL_law_1448 : decode cL_law 1448 = .ok (.aload_n 3, 1) := by decide +kernel
theorem dL_law_1449 : decode cL_law 1449 = .ok (.invokestatic 216, 3) := by decide +kernel
theorem dL_law_1452 : decode cL_law 1452 = .ok (.istore 5, 2) := by decide +kernel
theorem dL_law_1454 : decode cL_law 1454 = .ok (.aload_n 2, 1) := by decide +kernel
theorem dL_law_1455 : decode cL_law 1455 = .ok (.aload_n 0, 1) := by decide +kernel
theorem dL_law_1456 : decode cL_law 1456 = .ok (.iload 4, 2) := by decide +kernel
theorem dL_law_1458 : decode cL_law 1458 = .ok (.iconst 1, 1) := by decide +kernel
theorem dL_law_1459 : decode cL_law 1459 = .ok (.iadd, 1) := by decide +kernel
theorem dL_law_1460 : decode cL_law 1460 = .ok (.iaload, 1) := by decide +kernel
theorem dL_law_1461 : decode cL_law 1461 = .ok (.invokevirtual 218, 3) := by decide +kernel
theorem dL_law_1464 : decode cL_law 1464 = .ok (.istore 6, 2) := by decide +kernel
theorem dL_law_1466 : decode cL_law 1466 = .ok (.aload_n 2, 1) := by decide +kernel
theorem dL_law_1467 : decode cL_law 1467 = .ok (.invokevirtual 134, 3) := by decide +kernel
theorem dL_law_1470 : decode cL_law 1470 = .ok (.iload 5, 2) := by decide +kernel
theorem dL_law_1472 : decode cL_law 1472 = .ok (.if_icmp .eq 5, 3) := by decide +kernel
theorem dL_law_1475 : decode cL_law 1475 = .ok (.iconst 0, 1) := by decide +kernel
theorem dL_law_1476 : decode cL_law 1476 = .ok (.ireturn, 1) := by decide +kernel
theorem dL_law_1477 : decode cL_law 1477 = .ok (.iload 5, 2) := by decide +kernel
theorem dL_law_1479 : decode cL_law 1479 = .ok (.ifCond .ne 15, 3) := by decide +kernel
theorem dL_law_1482 : decode cL_law 1482 = .ok (.aload_n 3, 1) := by decide +kernel
theorem dL_law_1483 : decode cL_law 1483 = .ok (.iconst 0, 1) := by decide +kernel
theorem dL_law_1484 : decode cL_law 1484 = .ok (.laload, 1) := by decide +kernel
theorem dL_law_1485 : decode cL_law 1485 = .ok (.iload 6, 2) := by decide +kernel
theorem dL_law_1487 : decode cL_law 1487 = .ok (.i2l, 1) := by decide +kernel
theorem dL_law_1488 : decode cL_law 1488 = .ok (.lcmp, 1) := by decide +kernel
theorem dL_law_1489 : decode cL_law 1489 = .ok (.ifCond .eq 5, 3) := by decide +kernel
theorem dL_law_1492 : decode cL_law 1492 = .ok (.iconst 0, 1) := by decide +kernel
theorem dL_law_1493 : decode cL_law 1493 = .ok (.ireturn, 1) := by decide +kernel
theorem dL_law_1494 : decode cL_law 1494 = .ok (.goto 959, 3) := by decide +kernel
theorem dL_law_1497 : decode cL_law 1497 = .ok (.aload_n 1, 1) := by decide +kernel
theorem dL_law_1498 : decode cL_law 1498 = .ok (.aload_n 0, 1) := by decide +kernel
theorem dL_law_1499 : decode cL_law 1499 = .ok (.iload 4, 2) := by decide +kernel
theorem dL_law_1501 : decode cL_law 1501 = .ok (.iconst 1, 1) := by decide +kernel
theorem dL_law_1502 : decode cL_law 1502 = .ok (.iadd, 1) := by decide +kernel
theorem dL_law_1503 : decode cL_law 1503 = .ok (.iaload, 1) := by decide +kernel
theorem dL_law_1504 : decode cL_law 1504 = .ok (.aload_n 3, 1) := by decide +kernel
theorem dL_law_1505 : decode cL_law 1505 = .ok (.invokestatic 219, 3) := by decide +kernel
theorem dL_law_1508 : decode cL_law 1508 = .ok (.istore 5, 2) := by decide +kernel
theorem dL_law_1510 : decode cL_law 1510 = .ok (.aload_n 2, 1) := by decide +kernel
theorem dL_law_1511 : decode cL_law 1511 = .ok (.aload_n 0, 1) := by decide +kernel
theorem dL_law_1512 : decode cL_law 1512 = .ok (.iload 4, 2) := by decide +kernel
theorem dL_law_1514 : decode cL_law 1514 = .ok (.iconst 1, 1) := by decide +kernel
theorem dL_law_1515 : decode cL_law 1515 = .ok (.iadd, 1) := by decide +kernel
theorem dL_law_1516 : decode cL_law 1516 = .ok (.iaload, 1) := by decide +kernel
theorem dL_law_1517 : decode cL_law 1517 = .ok (.invokevirtual 221, 3) := by decide +kernel
theorem dL_law_1520 : decode cL_law 1520 = .ok (.istore 6, 2) := by decide +kernel
theorem dL_law_1522 : decode cL_law 1522 = .ok (.aload_n 2, 1) := by decide +kernel
theorem dL_law_1523 : decode cL_law 1523 = .ok (.invokevirtual 134, 3) := by decide +kernel
theorem dL_law_1526 : decode cL_law 1526 = .ok (.iload 5, 2) := by decide +kernel
theorem dL_law_1528 : decode cL_law 1528 = .ok (.if_icmp .eq 5, 3) := by decide +kernel
theorem dL_law_1531 : decode cL_law 1531 = .ok (.iconst 0, 1) := by decide +kernel
theorem dL_law_1532 : decode cL_law 1532 = .ok (.ireturn, 1) := by decide +kernel
theorem dL_law_1533 : decode cL_law 1533 = .ok (.iload 5, 2) := by decide +kernel
theorem dL_law_1535 : decode cL_law 1535 = .ok (.ifCond .ne 15, 3) := by decide +kernel
theorem dL_law_1538 : decode cL_law 1538 = .ok (.aload_n 3, 1) := by decide +kernel
theorem dL_law_1539 : decode cL_law 1539 = .ok (.iconst 0, 1) := by decide +kernel
theorem dL_law_1540 : decode cL_law 1540 = .ok (.laload, 1) := by decide +kernel
theorem dL_law_1541 : decode cL_law 1541 = .ok (.iload 6, 2) := by decide +kernel
theorem dL_law_1543 : decode cL_law 1543 = .ok (.i2l, 1) := by decide +kernel
theorem dL_law_1544 : decode cL_law 1544 = .ok (.lcmp, 1) := by decide +kernel
theorem dL_law_1545 : decode cL_law 1545 = .ok (.ifCond .eq 5, 3) := by decide +kernel
theorem dL_law_1548 : decode cL_law 1548 = .ok (.iconst 0, 1) := by decide +kernel
theorem dL_law_1549 : decode cL_law 1549 = .ok (.ireturn, 1) := by decide +kernel
theorem dL_law_1550 : decode cL_law 1550 = .ok (.goto 903, 3) := by decide +kernel
theorem dL_law_1553 : decode cL_law 1553 = .ok (.aload_n 1, 1) := by decide +kernel
theorem dL_law_1554 : decode cL_law 1554 = .ok (.aload_n 0, 1) := by decide +kernel
theorem dL_law_1555 : decode cL_law 1555 = .ok (.iload 4, 2) := by decide +kernel
theorem dL_law_1557 : decode cL_law 1557 = .ok (.iconst 1, 1) := by decide +kernel
theorem dL_law_1558 : decode cL_law 1558 = .ok (.iadd, 1) := by decide +kernel
theorem dL_law_1559 : decode cL_law 1559 = .ok (.iaload, 1) := by decide +kernel
theorem dL_law_1560 : decode cL_law 1560 = .ok (.aload_n 3, 1) := by decide +kernel
theorem dL_law_1561 : decode cL_law 1561 = .ok (.invokestatic 222, 3) := by decide +kernel
theorem dL_law_1564 : decode cL_law 1564 = .ok (.istore 5, 2) := by decide +kernel
theorem dL_law_1566 : decode cL_law 1566 = .ok (.aload_n 2, 1) := by decide +kernel
theorem dL_law_1567 : decode cL_law 1567 = .ok (.aload_n 0, 1) := by decide +kernel
theorem dL_law_1568 : decode cL_law 1568 = .ok (.iload 4, 2) := by decide +kernel
theorem dL_law_1570 : decode cL_law 1570 = .ok (.iconst 1, 1) := by decide +kernel
theorem dL_law_1571 : decode cL_law 1571 = .ok (.iadd, 1) := by decide +kernel
theorem dL_law_1572 : decode cL_law 1572 = .ok (.iaload, 1) := by decide +kernel
theorem dL_law_1573 : decode cL_law 1573 = .ok (.invokevirtual 224, 3) := by decide +kernel
theorem dL_law_1576 : decode cL_law 1576 = .ok (.istore 6, 2) := by decide +kernel
theorem dL_law_1578 : decode cL_law 1578 = .ok (.aload_n 2, 1) := by decide +kernel
theorem dL_law_1579 : decode cL_law 1579 = .ok (.invokevirtual 134, 3) := by decide +kernel
theorem dL_law_1582 : decode cL_law 1582 = .ok (.iload 5, 2) := by decide +kernel
theorem dL_law_1584 : decode cL_law 1584 = .ok (.if_icmp .eq 5, 3) := by decide +kernel
theorem dL_law_1587 : decode cL_law 1587 = .ok (.iconst 0, 1) := by decide +kernel
theorem dL_law_1588 : decode cL_law 1588 = .ok (.ireturn, 1) := by decide +kernel
theorem dL_law_1589 : decode cL_law 1589 = .ok (.iload 5, 2) := by decide +kernel
theorem dL_law_1591 : decode cL_law 1591 = .ok (.ifCond .ne 15, 3) := by decide +kernel
theorem dL_law_1594 : decode cL_law 1594 = .ok (.aload_n 3, 1) := by decide +kernel
theorem dL_law_1595 : decode cL_law 1595 = .ok (.iconst 0, 1) := by decide +kernel
theorem dL_law_1596 : decode cL_law 1596 = .ok (.laload, 1) := by decide +kernel
theorem dL_law_1597 : decode cL_law 1597 = .ok (.iload 6, 2) := by decide +kernel
theorem dL_law_1599 : decode cL_law 1599 = .ok (.i2l, 1) := by decide +kernel
theorem dL_law_1600 : decode cL_law 1600 = .ok (.lcmp, 1) := by decide +kernel
theorem dL_law_1601 : decode cL_law 1601 = .ok (.ifCond .eq 5, 3) := by decide +kernel
theorem dL_law_1604 : decode cL_law 1604 = .ok (.iconst 0, 1) := by decide +kernel
theorem dL_law_1605 : decode cL_law 1605 = .ok (.ireturn, 1) := by decide +kernel
theorem dL_law_1606 : decode cL_law 1606 = .ok (.goto 847, 3) := by decide +kernel
theorem dL_law_1609 : decode cL_law 1609 = .ok (.aload_n 1, 1) := by decide +kernel
theorem dL_law_1610 : decode cL_law 1610 = .ok (.aload_n 0, 1) := by decide +kernel
theorem dL_law_1611 : decode cL_law 1611 = .ok (.iload 4, 2) := by decide +kernel
theorem dL_law_1613 : decode cL_law 1613 = .ok (.iconst 1, 1) := by decide +kernel
theorem dL_law_1614 : decode cL_law 1614 = .ok (.iadd, 1) := by decide +kernel
theorem dL_law_1615 : decode cL_law 1615 = .ok (.iaload, 1) := by decide +kernel
theorem dL_law_1616 : decode cL_law 1616 = .ok (.aload_n 0, 1) := by decide +kernel
theorem dL_law_1617 : decode cL_law 1617 = .ok (.iload 4, 2) := by decide +kernel
theorem dL_law_1619 : decode cL_law 1619 = .ok (.iconst 2, 1) := by decide +kernel
theorem dL_law_1620 : decode cL_law 1620 = .ok (.iadd, 1) := by decide +kernel
theorem dL_law_1621 : decode cL_law 1621 = .ok (.iaload, 1) := by decide +kernel
theorem dL_law_1622 : decode cL_law 1622 = .ok (.aload_n 3, 1) := by decide +kernel
theorem dL_law_1623 : decode cL_law 1623 = .ok (.invokestatic 225, 3) := by decide +kernel
theorem dL_law_1626 : decode cL_law 1626 = .ok (.istore 5, 2) := by decide +kernel
theorem dL_law_1628 : decode cL_law 1628 = .ok (.aload_n 2, 1) := by decide +kernel
theorem dL_law_1629 : decode cL_law 1629 = .ok (.aload_n 0, 1) := by decide +kernel
theorem dL_law_1630 : decode cL_law 1630 = .ok (.iload 4, 2) := by decide +kernel
theorem dL_law_1632 : decode cL_law 1632 = .ok (.iconst 1, 1) := by decide +kernel
theorem dL_law_1633 : decode cL_law 1633 = .ok (.iadd, 1) := by decide +kernel
theorem dL_law_1634 : decode cL_law 1634 = .ok (.iaload, 1) := by decide +kernel
theorem dL_law_1635 : decode cL_law 1635 = .ok (.aload_n 0, 1) := by decide +kernel
theorem dL_law_1636 : decode cL_law 1636 = .ok (.iload 4, 2) := by decide +kernel
theorem dL_law_1638 : decode cL_law 1638 = .ok (.iconst 2, 1) := by decide +kernel
theorem dL_law_1639 : decode cL_law 1639 = .ok (.iadd, 1) := by decide +kernel
theorem dL_law_1640 : decode cL_law 1640 = .ok (.iaload, 1) := by decide +kernel
theorem dL_law_1641 : decode cL_law 1641 = .ok (.invokevirtual 227, 3) := by decide +kernel
theorem dL_law_1644 : decode cL_law 1644 = .ok (.istore 6, 2) := by decide +kernel
theorem dL_law_1646 : decode cL_law 1646 = .ok (.aload_n 2, 1) := by decide +kernel
theorem dL_law_1647 : decode cL_law 1647 = .ok (.invokevirtual 134, 3) := by decide +kernel
theorem dL_law_1650 : decode cL_law 1650 = .ok (.iload 5, 2) := by decide +kernel
theorem dL_law_1652 : decode cL_law 1652 = .ok (.if_icmp .eq 5, 3) := by decide +kernel
theorem dL_law_1655 : decode cL_law 1655 = .ok (.iconst 0, 1) := by decide +kernel
theorem dL_law_1656 : decode cL_law 1656 = .ok (.ireturn, 1) := by decide +kernel
theorem dL_law_1657 : decode cL_law 1657 = .ok (.iload 5, 2) := by decide +kernel
theorem dL_law_1659 : decode cL_law 1659 = .ok (.ifCond .ne 15, 3) := by decide +kernel
theorem dL_law_1662 : decode cL_law 1662 = .ok (.aload_n 3, 1) := by decide +kernel
theorem dL_law_1663 : decode cL_law 1663 = .ok (.iconst 0, 1) := by decide +kernel
theorem dL_law_1664 : decode cL_law 1664 = .ok (.laload, 1) := by decide +kernel
theorem dL_law_1665 : decode cL_law 1665 = .ok (.iload 6, 2) := by decide +kernel
theorem dL_law_1667 : decode cL_law 1667 = .ok (.i2l, 1) := by decide +kernel
theorem dL_law_1668 : decode cL_law 1668 = .ok (.lcmp, 1) := by decide +kernel
theorem dL_law_1669 : decode cL_law 1669 = .ok (.ifCond .eq 5, 3) := by decide +kernel
theorem dL_law_1672 : decode cL_law 1672 = .ok (.iconst 0, 1) := by decide +kernel
theorem dL_law_1673 : decode cL_law 1673 = .ok (.ireturn, 1) := by decide +kernel
theorem dL_law_1674 : decode cL_law 1674 = .ok (.goto 779, 3) := by decide +kernel
theorem dL_law_1677 : decode cL_law 1677 = .ok (.aload_n 1, 1) := by decide +kernel
theorem dL_law_1678 : decode cL_law 1678 = .ok (.aload_n 0, 1) := by decide +kernel
theorem dL_law_1679 : decode cL_law 1679 = .ok (.iload 4, 2) := by decide +kernel
theorem dL_law_1681 : decode cL_law 1681 = .ok (.iconst 1, 1) := by decide +kernel
theorem dL_law_1682 : decode cL_law 1682 = .ok (.iadd, 1) := by decide +kernel
theorem dL_law_1683 : decode cL_law 1683 = .ok (.iaload, 1) := by decide +kernel
theorem dL_law_1684 : decode cL_law 1684 = .ok (.aload_n 0, 1) := by decide +kernel
theorem dL_law_1685 : decode cL_law 1685 = .ok (.iload 4, 2) := by decide +kernel
theorem dL_law_1687 : decode cL_law 1687 = .ok (.iconst 2, 1) := by decide +kernel
theorem dL_law_1688 : decode cL_law 1688 = .ok (.iadd, 1) := by decide +kernel
theorem dL_law_1689 : decode cL_law 1689 = .ok (.iaload, 1) := by decide +kernel
theorem dL_law_1690 : decode cL_law 1690 = .ok (.aload_n 3, 1) := by decide +kernel
theorem dL_law_1691 : decode cL_law 1691 = .ok (.invokestatic 228, 3) := by decide +kernel
theorem dL_law_1694 : decode cL_law 1694 = .ok (.istore 5, 2) := by decide +kernel
theorem dL_law_1696 : decode cL_law 1696 = .ok (.aload_n 2, 1) := by decide +kernel
theorem dL_law_1697 : decode cL_law 1697 = .ok (.aload_n 0, 1) := by decide +kernel
theorem dL_law_1698 : decode cL_law 1698 = .ok (.iload 4, 2) := by decide +kernel
theorem dL_law_1700 : decode cL_law 1700 = .ok (.iconst 1, 1) := by decide +kernel
theorem dL_law_1701 : decode cL_law 1701 = .ok (.iadd, 1) := by decide +kernel
theorem dL_law_1702 : decode cL_law 1702 = .ok (.iaload, 1) := by decide +kernel
theorem dL_law_1703 : decode cL_law 1703 = .ok (.aload_n 0, 1) := by decide +kernel
theorem dL_law_1704 : decode cL_law 1704 = .ok (.iload 4, 2) := by decide +kernel
theorem dL_law_1706 : decode cL_law 1706 = .ok (.iconst 2, 1) := by decide +kernel
theorem dL_law_1707 : decode cL_law 1707 = .ok (.iadd, 1) := by decide +kernel
theorem dL_law_1708 : decode cL_law 1708 = .ok (.iaload, 1) := by decide +kernel
theorem dL_law_1709 : decode cL_law 1709 = .ok (.invokevirtual 230, 3) := by decide +kernel
theorem dL_law_1712 : decode cL_law 1712 = .ok (.istore 6, 2) := by decide +kernel
theorem dL_law_1714 : decode cL_law 1714 = .ok (.aload_n 2, 1) := by decide +kernel
theorem dL_law_1715 : decode cL_law 1715 = .ok (.invokevirtual 134, 3) := by decide +kernel
theorem dL_law_1718 : decode cL_law 1718 = .ok (.iload 5, 2) := by decide +kernel
theorem dL_law_1720 : decode cL_law 1720 = .ok (.if_icmp .eq 5, 3) := by decide +kernel
theorem dL_law_1723 : decode cL_law 1723 = .ok (.iconst 0, 1) := by decide +kernel
theorem dL_law_1724 : decode cL_law 1724 = .ok (.ireturn, 1) := by decide +kernel
theorem dL_law_1725 : decode cL_law 1725 = .ok (.iload 5, 2) := by decide +kernel
theorem dL_law_1727 : decode cL_law 1727 = .ok (.ifCond .ne 15, 3) := by decide +kernel
theorem dL_law_1730 : decode cL_law 1730 = .ok (.aload_n 3, 1) := by decide +kernel
theorem dL_law_1731 : decode cL_law 1731 = .ok (.iconst 0, 1) := by decide +kernel
theorem dL_law_1732 : decode cL_law 1732 = .ok (.laload, 1) := by decide +kernel
theorem dL_law_1733 : decode cL_law 1733 = .ok (.iload 6, 2) := by decide +kernel
theorem dL_law_1735 : decode cL_law 1735 = .ok (.i2l, 1) := by decide +kernel
theorem dL_law_1736 : decode cL_law 1736 = .ok (.lcmp, 1) := by decide +kernel
theorem dL_law_1737 : decode cL_law 1737 = .ok (.ifCond .eq 5, 3) := by decide +kernel
theorem dL_law_1740 : decode cL_law 1740 = .ok (.iconst 0, 1) := by decide +kernel
theorem dL_law_1741 : decode cL_law 1741 = .ok (.ireturn, 1) := by decide +kernel
theorem dL_law_1742 : decode cL_law 1742 = .ok (.goto 711, 3) := by decide +kernel
theorem dL_law_1745 : decode cL_law 1745 = .ok (.aload_n 1, 1) := by decide +kernel
theorem dL_law_1746 : decode cL_law 1746 = .ok (.aload_n 0, 1) := by decide +kernel
theorem dL_law_1747 : decode cL_law 1747 = .ok (.iload 4, 2) := by decide +kernel
theorem dL_law_1749 : decode cL_law 1749 = .ok (.iconst 1, 1) := by decide +kernel
theorem dL_law_1750 : decode cL_law 1750 = .ok (.iadd, 1) := by decide +kernel
theorem dL_law_1751 : decode cL_law 1751 = .ok (.iaload, 1) := by decide +kernel
theorem dL_law_1752 : decode cL_law 1752 = .ok (.aload_n 3, 1) := by decide +kernel
theorem dL_law_1753 : decode cL_law 1753 = .ok (.invokestatic 231, 3) := by decide +kernel
theorem dL_law_1756 : decode cL_law 1756 = .ok (.istore 5, 2) := by decide +kernel
theorem dL_law_1758 : decode cL_law 1758 = .ok (.aload_n 2, 1) := by decide +kernel
theorem dL_law_1759 : decode cL_law 1759 = .ok (.aload_n 0, 1) := by decide +kernel
theorem dL_law_1760 : decode cL_law 1760 = .ok (.iload 4, 2) := by decide +kernel
theorem dL_law_1762 : decode cL_law 1762 = .ok (.iconst 1, 1) := by decide +kernel
theorem dL_law_1763 : decode cL_law 1763 = .ok (.iadd, 1) := by decide +kernel
theorem dL_law_1764 : decode cL_law 1764 = .ok (.iaload, 1) := by decide +kernel
theorem dL_law_1765 : decode cL_law 1765 = .ok (.invokevirtual 233, 3) := by decide +kernel
theorem dL_law_1768 : decode cL_law 1768 = .ok (.istore 6, 2) := by decide +kernel
theorem dL_law_1770 : decode cL_law 1770 = .ok (.aload_n 2, 1) := by decide +kernel
theorem dL_law_1771 : decode cL_law 1771 = .ok (.invokevirtual 134, 3) := by decide +kernel
theorem dL_law_1774 : decode cL_law 1774 = .ok (.iload 5, 2) := by decide +kernel
theorem dL_law_1776 : decode cL_law 1776 = .ok (.if_icmp .eq 5, 3) := by decide +kernel
theorem dL_law_1779 : decode cL_law 1779 = .ok (.iconst 0, 1) := by decide +kernel
theorem dL_law_1780 : decode cL_law 1780 = .ok (.ireturn, 1) := by decide +kernel
theorem dL_law_1781 : decode cL_law 1781 = .ok (.iload 5, 2) := by decide +kernel
theorem dL_law_1783 : decode cL_law 1783 = .ok (.ifCond .ne 15, 3) := by decide +kernel
theorem dL_law_1786 : decode cL_law 1786 = .ok (.aload_n 3, 1) := by decide +kernel
theorem dL_law_1787 : decode cL_law 1787 = .ok (.iconst 0, 1) := by decide +kernel
theorem dL_law_1788 : decode cL_law 1788 = .ok (.laload, 1) := by decide +kernel
theorem dL_law_1789 : decode cL_law 1789 = .ok (.iload 6, 2) := by decide +kernel
theorem dL_law_1791 : decode cL_law 1791 = .ok (.i2l, 1) := by decide +kernel
theorem dL_law_1792 : decode cL_law 1792 = .ok (.lcmp, 1) := by decide +kernel
theorem dL_law_1793 : decode cL_law 1793 = .ok (.ifCond .eq 5, 3) := by decide +kernel
theorem dL_law_1796 : decode cL_law 1796 = .ok (.iconst 0, 1) := by decide +kernel
theorem dL_law_1797 : decode cL_law 1797 = .ok (.ireturn, 1) := by decide +kernel
theorem dL_law_1798 : decode cL_law 1798 = .ok (.goto 655, 3) := by decide +kernel
theorem dL_law_1801 : decode cL_law 1801 = .ok (.aload_n 1, 1) := by decide +kernel
theorem dL_law_1802 : decode cL_law 1802 = .ok (.aload_n 0, 1) := by decide +kernel
theorem dL_law_1803 : decode cL_law 1803 = .ok (.iload 4, 2) := by decide +kernel
theorem dL_law_1805 : decode cL_law 1805 = .ok (.iconst 1, 1) := by decide +kernel
theorem dL_law_1806 : decode cL_law 1806 = .ok (.iadd, 1) := by decide +kernel
theorem dL_law_1807 : decode cL_law 1807 = .ok (.iaload, 1) := by decide +kernel
theorem dL_law_1808 : decode cL_law 1808 = .ok (.aload_n 3, 1) := by decide +kernel
theorem dL_law_1809 : decode cL_law 1809 = .ok (.invokestatic 234, 3) := by decide +kernel
theorem dL_law_1812 : decode cL_law 1812 = .ok (.istore 5, 2) := by decide +kernel
theorem dL_law_1814 : decode cL_law 1814 = .ok (.aload_n 2, 1) := by decide +kernel
theorem dL_law_1815 : decode cL_law 1815 = .ok (.aload_n 0, 1) := by decide +kernel
theorem dL_law_1816 : decode cL_law 1816 = .ok (.iload 4, 2) := by decide +kernel
theorem dL_law_1818 : decode cL_law 1818 = .ok (.iconst 1, 1) := by decide +kernel
theorem dL_law_1819 : decode cL_law 1819 = .ok (.iadd, 1) := by decide +kernel
theorem dL_law_1820 : decode cL_law 1820 = .ok (.iaload, 1) := by decide +kernel
theorem dL_law_1821 : decode cL_law 1821 = .ok (.invokevirtual 236, 3) := by decide +kernel
theorem dL_law_1824 : decode cL_law 1824 = .ok (.istore 6, 2) := by decide +kernel
theorem dL_law_1826 : decode cL_law 1826 = .ok (.aload_n 2, 1) := by decide +kernel
theorem dL_law_1827 : decode cL_law 1827 = .ok (.invokevirtual 134, 3) := by decide +kernel
theorem dL_law_1830 : decode cL_law 1830 = .ok (.iload 5, 2) := by decide +kernel
theorem dL_law_1832 : decode cL_law 1832 = .ok (.if_icmp .eq 5, 3) := by decide +kernel
theorem dL_law_1835 : decode cL_law 1835 = .ok (.iconst 0, 1) := by decide +kernel
theorem dL_law_1836 : decode cL_law 1836 = .ok (.ireturn, 1) := by decide +kernel
theorem dL_law_1837 : decode cL_law 1837 = .ok (.iload 5, 2) := by decide +kernel
theorem dL_law_1839 : decode cL_law 1839 = .ok (.ifCond .ne 15, 3) := by decide +kernel
theorem dL_law_1842 : decode cL_law 1842 = .ok (.aload_n 3, 1) := by decide +kernel
theorem dL_law_1843 : decode cL_law 1843 = .ok (.iconst 0, 1) := by decide +kernel
theorem dL_law_1844 : decode cL_law 1844 = .ok (.laload, 1) := by decide +kernel
theorem dL_law_1845 : decode cL_law 1845 = .ok (.iload 6, 2) := by decide +kernel
theorem dL_law_1847 : decode cL_law 1847 = .ok (.i2l, 1) := by decide +kernel
theorem dL_law_1848 : decode cL_law 1848 = .ok (.lcmp, 1) := by decide +kernel
theorem dL_law_1849 : decode cL_law 1849 = .ok (.ifCond .eq 5, 3) := by decide +kernel
theorem dL_law_1852 : decode cL_law 1852 = .ok (.iconst 0, 1) := by decide +kernel
theorem dL_law_1853 : decode cL_law 1853 = .ok (.ireturn, 1) := by decide +kernel
theorem dL_law_1854 : decode cL_law 1854 = .ok (.goto 599, 3) := by decide +kernel
theorem dL_law_1857 : decode cL_law 1857 = .ok (.aload_n 1, 1) := by decide +kernel
theorem dL_law_1858 : decode cL_law 1858 = .ok (.aload_n 0, 1) := by decide +kernel
theorem dL_law_1859 : decode cL_law 1859 = .ok (.iload 4, 2) := by decide +kernel
theorem dL_law_1861 : decode cL_law 1861 = .ok (.iconst 1, 1) := by decide +kernel
theorem dL_law_1862 : decode cL_law 1862 = .ok (.iadd, 1) := by decide +kernel
theorem dL_law_1863 : decode cL_law 1863 = .ok (.iaload, 1) := by decide +kernel
theorem dL_law_1864 : decode cL_law 1864 = .ok (.aload_n 0, 1) := by decide +kernel
theorem dL_law_1865 : decode cL_law 1865 = .ok (.iload 4, 2) := by decide +kernel
theorem dL_law_1867 : decode cL_law 1867 = .ok (.iconst 2, 1) := by decide +kernel
theorem dL_law_1868 : decode cL_law 1868 = .ok (.iadd, 1) := by decide +kernel
theorem dL_law_1869 : decode cL_law 1869 = .ok (.iaload, 1) := by decide +kernel
theorem dL_law_1870 : decode cL_law 1870 = .ok (.aload_n 3, 1) := by decide +kernel
theorem dL_law_1871 : decode cL_law 1871 = .ok (.invokestatic 237, 3) := by decide +kernel
theorem dL_law_1874 : decode cL_law 1874 = .ok (.istore 5, 2) := by decide +kernel
theorem dL_law_1876 : decode cL_law 1876 = .ok (.aload_n 2, 1) := by decide +kernel
theorem dL_law_1877 : decode cL_law 1877 = .ok (.aload_n 0, 1) := by decide +kernel
theorem dL_law_1878 : decode cL_law 1878 = .ok (.iload 4, 2) := by decide +kernel
theorem dL_law_1880 : decode cL_law 1880 = .ok (.iconst 1, 1) := by decide +kernel
theorem dL_law_1881 : decode cL_law 1881 = .ok (.iadd, 1) := by decide +kernel
theorem dL_law_1882 : decode cL_law 1882 = .ok (.iaload, 1) := by decide +kernel
theorem dL_law_1883 : decode cL_law 1883 = .ok (.aload_n 0, 1) := by decide +kernel
theorem dL_law_1884 : decode cL_law 1884 = .ok (.iload 4, 2) := by decide +kernel
theorem dL_law_1886 : decode cL_law 1886 = .ok (.iconst 2, 1) := by decide +kernel
theorem dL_law_1887 : decode cL_law 1887 = .ok (.iadd, 1) := by decide +kernel
theorem dL_law_1888 : decode cL_law 1888 = .ok (.iaload, 1) := by decide +kernel
theorem dL_law_1889 : decode cL_law 1889 = .ok (.invokevirtual 239, 3) := by decide +kernel
theorem dL_law_1892 : decode cL_law 1892 = .ok (.istore 6, 2) := by decide +kernel
theorem dL_law_1894 : decode cL_law 1894 = .ok (.aload_n 2, 1) := by decide +kernel
theorem dL_law_1895 : decode cL_law 1895 = .ok (.invokevirtual 134, 3) := by decide +kernel
theorem dL_law_1898 : decode cL_law 1898 = .ok (.iload 5, 2) := by decide +kernel
theorem dL_law_1900 : decode cL_law 1900 = .ok (.if_icmp .eq 5, 3) := by decide +kernel
theorem dL_law_1903 : decode cL_law 1903 = .ok (.iconst 0, 1) := by decide +kernel
theorem dL_law_1904 : decode cL_law 1904 = .ok (.ireturn, 1) := by decide +kernel
theorem dL_law_1905 : decode cL_law 1905 = .ok (.iload 5, 2) := by decide +kernel
theorem dL_law_1907 : decode cL_law 1907 = .ok (.ifCond .ne 15, 3) := by decide +kernel
theorem dL_law_1910 : decode cL_law 1910 = .ok (.aload_n 3, 1) := by decide +kernel
theorem dL_law_1911 : decode cL_law 1911 = .ok (.iconst 0, 1) := by decide +kernel
theorem dL_law_1912 : decode cL_law 1912 = .ok (.laload, 1) := by decide +kernel
theorem dL_law_1913 : decode cL_law 1913 = .ok (.iload 6, 2) := by decide +kernel
theorem dL_law_1915 : decode cL_law 1915 = .ok (.i2l, 1) := by decide +kernel
theorem dL_law_1916 : decode cL_law 1916 = .ok (.lcmp, 1) := by decide +kernel
theorem dL_law_1917 : decode cL_law 1917 = .ok (.ifCond .eq 5, 3) := by decide +kernel
theorem dL_law_1920 : decode cL_law 1920 = .ok (.iconst 0, 1) := by decide +kernel
theorem dL_law_1921 : decode cL_law 1921 = .ok (.ireturn, 1) := by decide +kernel
theorem dL_law_1922 : decode cL_law 1922 = .ok (.goto 531, 3) := by decide +kernel
theorem dL_law_1925 : decode cL_law 1925 = .ok (.aload_n 1, 1) := by decide +kernel
theorem dL_law_1926 : decode cL_law 1926 = .ok (.aload_n 0, 1) := by decide +kernel
theorem dL_law_1927 : decode cL_law 1927 = .ok (.iload 4, 2) := by decide +kernel
theorem dL_law_1929 : decode cL_law 1929 = .ok (.iconst 1, 1) := by decide +kernel
theorem dL_law_1930 : decode cL_law 1930 = .ok (.iadd, 1) := by decide +kernel
theorem dL_law_1931 : decode cL_law 1931 = .ok (.iaload, 1) := by decide +kernel
theorem dL_law_1932 : decode cL_law 1932 = .ok (.aload_n 3, 1) := by decide +kernel
theorem dL_law_1933 : decode cL_law 1933 = .ok (.invokestatic 240, 3) := by decide +kernel
theorem dL_law_1936 : decode cL_law 1936 = .ok (.istore 5, 2) := by decide +kernel
theorem dL_law_1938 : decode cL_law 1938 = .ok (.aload_n 2, 1) := by decide +kernel
theorem dL_law_1939 : decode cL_law 1939 = .ok (.aload_n 0, 1) := by decide +kernel
theorem dL_law_1940 : decode cL_law 1940 = .ok (.iload 4, 2) := by decide +kernel
theorem dL_law_1942 : decode cL_law 1942 = .ok (.iconst 1, 1) := by decide +kernel
theorem dL_law_1943 : decode cL_law 1943 = .ok (.iadd, 1) := by decide +kernel
theorem dL_law_1944 : decode cL_law 1944 = .ok (.iaload, 1) := by decide +kernel
theorem dL_law_1945 : decode cL_law 1945 = .ok (.invokevirtual 242, 3) := by decide +kernel
theorem dL_law_1948 : decode cL_law 1948 = .ok (.istore 6, 2) := by decide +kernel
theorem dL_law_1950 : decode cL_law 1950 = .ok (.aload_n 2, 1) := by decide +kernel
theorem dL_law_1951 : decode cL_law 1951 = .ok (.invokevirtual 134, 3) := by decide +kernel
theorem dL_law_1954 : decode cL_law 1954 = .ok (.iload 5, 2) := by decide +kernel
theorem dL_law_1956 : decode cL_law 1956 = .ok (.if_icmp .eq 5, 3) := by decide +kernel
theorem dL_law_1959 : decode cL_law 1959 = .ok (.iconst 0, 1) := by decide +kernel
theorem dL_law_1960 : decode cL_law 1960 = .ok (.ireturn, 1) := by decide +kernel
theorem dL_law_1961 : decode cL_law 1961 = .ok (.iload 5, 2) := by decide +kernel
theorem dL_law_1963 : decode cL_law 1963 = .ok (.ifCond .ne 15, 3) := by decide +kernel
theorem dL_law_1966 : decode cL_law 1966 = .ok (.aload_n 3, 1) := by decide +kernel
theorem dL_law_1967 : decode cL_law 1967 = .ok (.iconst 0, 1) := by decide +kernel
theorem dL_law_1968 : decode cL_law 1968 = .ok (.laload, 1) := by decide +kernel
theorem dL_law_1969 : decode cL_law 1969 = .ok (.iload 6, 2) := by decide +kernel
theorem dL_law_1971 : decode cL_law 1971 = .ok (.i2l, 1) := by decide +kernel
theorem dL_law_1972 : decode cL_law 1972 = .ok (.lcmp, 1) := by decide +kernel
theorem dL_law_1973 : decode cL_law 1973 = .ok (.ifCond .eq 5, 3) := by decide +kernel
theorem dL_law_1976 : decode cL_law 1976 = .ok (.iconst 0, 1) := by decide +kernel
theorem dL_law_1977 : decode cL_law 1977 = .ok (.ireturn, 1) := by decide +kernel
theorem dL_law_1978 : decode cL_law 1978 = .ok (.goto 475, 3) := by decide +kernel
theorem dL_law_1981 : decode cL_law 1981 = .ok (.aload_n 1, 1) := by decide +kernel
theorem dL_law_1982 : decode cL_law 1982 = .ok (.aload_n 0, 1) := by decide +kernel
theorem dL_law_1983 : decode cL_law 1983 = .ok (.iload 4, 2) := by decide +kernel
theorem dL_law_1985 : decode cL_law 1985 = .ok (.iconst 1, 1) := by decide +kernel
theorem dL_law_1986 : decode cL_law 1986 = .ok (.iadd, 1) := by decide +kernel
theorem dL_law_1987 : decode cL_law 1987 = .ok (.iaload, 1) := by decide +kernel
theorem dL_law_1988 : decode cL_law 1988 = .ok (.aload_n 0, 1) := by decide +kernel
theorem dL_law_1989 : decode cL_law 1989 = .ok (.iload 4, 2) := by decide +kernel
theorem dL_law_1991 : decode cL_law 1991 = .ok (.iconst 2, 1) := by decide +kernel
theorem dL_law_1992 : decode cL_law 1992 = .ok (.iadd, 1) := by decide +kernel
theorem dL_law_1993 : decode cL_law 1993 = .ok (.iaload, 1) := by decide +kernel
theorem dL_law_1994 : decode cL_law 1994 = .ok (.aload_n 0, 1) := by decide +kernel
theorem dL_law_1995 : decode cL_law 1995 = .ok (.iload 4, 2) := by decide +kernel
theorem dL_law_1997 : decode cL_law 1997 = .ok (.iconst 3, 1) := by decide +kernel
theorem dL_law_1998 : decode cL_law 1998 = .ok (.iadd, 1) := by decide +kernel
theorem dL_law_1999 : decode cL_law 1999 = .ok (.iaload, 1) := by decide +kernel
theorem dL_law_2000 : decode cL_law 2000 = .ok (.aload_n 3, 1) := by decide +kernel
theorem dL_law_2001 : decode cL_law 2001 = .ok (.invokestatic 243, 3) := by decide +kernel
theorem dL_law_2004 : decode cL_law 2004 = .ok (.istore 5, 2) := by decide +kernel
theorem dL_law_2006 : decode cL_law 2006 = .ok (.aload_n 2, 1) := by decide +kernel
theorem dL_law_2007 : decode cL_law 2007 = .ok (.aload_n 0, 1) := by decide +kernel
theorem dL_law_2008 : decode cL_law 2008 = .ok (.iload 4, 2) := by decide +kernel
theorem dL_law_2010 : decode cL_law 2010 = .ok (.iconst 1, 1) := by decide +kernel
theorem dL_law_2011 : decode cL_law 2011 = .ok (.iadd, 1) := by decide +kernel
theorem dL_law_2012 : decode cL_law 2012 = .ok (.iaload, 1) := by decide +kernel
theorem dL_law_2013 : decode cL_law 2013 = .ok (.aload_n 0, 1) := by decide +kernel
theorem dL_law_2014 : decode cL_law 2014 = .ok (.iload 4, 2) := by decide +kernel
theorem dL_law_2016 : decode cL_law 2016 = .ok (.iconst 2, 1) := by decide +kernel
theorem dL_law_2017 : decode cL_law 2017 = .ok (.iadd, 1) := by decide +kernel
theorem dL_law_2018 : decode cL_law 2018 = .ok (.iaload, 1) := by decide +kernel
theorem dL_law_2019 : decode cL_law 2019 = .ok (.aload_n 0, 1) := by decide +kernel
theorem dL_law_2020 : decode cL_law 2020 = .ok (.iload 4, 2) := by decide +kernel
theorem dL_law_2022 : decode cL_law 2022 = .ok (.iconst 3, 1) := by decide +kernel
theorem dL_law_2023 : decode cL_law 2023 = .ok (.iadd, 1) := by decide +kernel
theorem dL_law_2024 : decode cL_law 2024 = .ok (.iaload, 1) := by decide +kernel
theorem dL_law_2025 : decode cL_law 2025 = .ok (.invokevirtual 246, 3) := by decide +kernel
theorem dL_law_2028 : decode cL_law 2028 = .ok (.istore 6, 2) := by decide +kernel
theorem dL_law_2030 : decode cL_law 2030 = .ok (.aload_n 2, 1) := by decide +kernel
theorem dL_law_2031 : decode cL_law 2031 = .ok (.invokevirtual 134, 3) := by decide +kernel
theorem dL_law_2034 : decode cL_law 2034 = .ok (.iload 5, 2) := by decide +kernel
theorem dL_law_2036 : decode cL_law 2036 = .ok (.if_icmp .eq 5, 3) := by decide +kernel
theorem dL_law_2039 : decode cL_law 2039 = .ok (.iconst 0, 1) := by decide +kernel
theorem dL_law_2040 : decode cL_law 2040 = .ok (.ireturn, 1) := by decide +kernel
theorem dL_law_2041 : decode cL_law 2041 = .ok (.iload 5, 2) := by decide +kernel
theorem dL_law_2043 : decode cL_law 2043 = .ok (.ifCond .ne 15, 3) := by decide +kernel
theorem dL_law_2046 : decode cL_law 2046 = .ok (.aload_n 3, 1) := by decide +kernel
theorem dL_law_2047 : decode cL_law 2047 = .ok (.iconst 0, 1) := by decide +kernel
theorem dL_law_2048 : decode cL_law 2048 = .ok (.laload, 1) := by decide +kernel
theorem dL_law_2049 : decode cL_law 2049 = .ok (.iload 6, 2) := by decide +kernel
theorem dL_law_2051 : decode cL_law 2051 = .ok (.i2l, 1) := by decide +kernel
theorem dL_law_2052 : decode cL_law 2052 = .ok (.lcmp, 1) := by decide +kernel
theorem dL_law_2053 : decode cL_law 2053 = .ok (.ifCond .eq 5, 3) := by decide +kernel
theorem dL_law_2056 : decode cL_law 2056 = .ok (.iconst 0, 1) := by decide +kernel
theorem dL_law_2057 : decode cL_law 2057 = .ok (.ireturn, 1) := by decide +kernel
theorem dL_law_2058 : decode cL_law 2058 = .ok (.goto 395, 3) := by decide +kernel
theorem dL_law_2061 : decode cL_law 2061 = .ok (.aload_n 1, 1) := by decide +kernel
theorem dL_law_2062 : decode cL_law 2062 = .ok (.aload_n 0, 1) := by decide +kernel
theorem dL_law_2063 : decode cL_law 2063 = .ok (.iload 4, 2) := by decide +kernel
theorem dL_law_2065 : decode cL_law 2065 = .ok (.iconst 1, 1) := by decide +kernel
theorem dL_law_2066 : decode cL_law 2066 = .ok (.iadd, 1) := by decide +kernel
theorem dL_law_2067 : decode cL_law 2067 = .ok (.iaload, 1) := by decide +kernel
theorem dL_law_2068 : decode cL_law 2068 = .ok (.aload_n 3, 1) := by decide +kernel
theorem dL_law_2069 : decode cL_law 2069 = .ok (.invokestatic 247, 3) := by decide +kernel
theorem dL_law_2072 : decode cL_law 2072 = .ok (.istore 5, 2) := by decide +kernel
theorem dL_law_2074 : decode cL_law 2074 = .ok (.aload_n 2, 1) := by decide +kernel
theorem dL_law_2075 : decode cL_law 2075 = .ok (.aload_n 0, 1) := by decide +kernel
theorem dL_law_2076 : decode cL_law 2076 = .ok (.iload 4, 2) := by decide +kernel
theorem dL_law_2078 : decode cL_law 2078 = .ok (.iconst 1, 1) := by decide +kernel
theorem dL_law_2079 : decode cL_law 2079 = .ok (.iadd, 1) := by decide +kernel
theorem dL_law_2080 : decode cL_law 2080 = .ok (.iaload, 1) := by decide +kernel
theorem dL_law_2081 : decode cL_law 2081 = .ok (.invokevirtual 249, 3) := by decide +kernel
theorem dL_law_2084 : decode cL_law 2084 = .ok (.istore 6, 2) := by decide +kernel
theorem dL_law_2086 : decode cL_law 2086 = .ok (.aload_n 2, 1) := by decide +kernel
theorem dL_law_2087 : decode cL_law 2087 = .ok (.invokevirtual 134, 3) := by decide +kernel
theorem dL_law_2090 : decode cL_law 2090 = .ok (.iload 5, 2) := by decide +kernel
theorem dL_law_2092 : decode cL_law 2092 = .ok (.if_icmp .eq 5, 3) := by decide +kernel
theorem dL_law_2095 : decode cL_law 2095 = .ok (.iconst 0, 1) := by decide +kernel
theorem dL_law_2096 : decode cL_law 2096 = .ok (.ireturn, 1) := by decide +kernel
theorem dL_law_2097 : decode cL_law 2097 = .ok (.iload 5, 2) := by decide +kernel
theorem dL_law_2099 : decode cL_law 2099 = .ok (.ifCond .ne 15, 3) := by decide +kernel
theorem dL_law_2102 : decode cL_law 2102 = .ok (.aload_n 3, 1) := by decide +kernel
theorem dL_law_2103 : decode cL_law 2103 = .ok (.iconst 0, 1) := by decide +kernel
theorem dL_law_2104 : decode cL_law 2104 = .ok (.laload, 1) := by decide +kernel
theorem dL_law_2105 : decode cL_law 2105 = .ok (.iload 6, 2) := by decide +kernel
theorem dL_law_2107 : decode cL_law 2107 = .ok (.i2l, 1) := by decide +kernel
theorem dL_law_2108 : decode cL_law 2108 = .ok (.lcmp, 1) := by decide +kernel
theorem dL_law_2109 : decode cL_law 2109 = .ok (.ifCond .eq 5, 3) := by decide +kernel
theorem dL_law_2112 : decode cL_law 2112 = .ok (.iconst 0, 1) := by decide +kernel
theorem dL_law_2113 : decode cL_law 2113 = .ok (.ireturn, 1) := by decide +kernel
theorem dL_law_2114 : decode cL_law 2114 = .ok (.goto 339, 3) := by decide +kernel
theorem dL_law_2117 : decode cL_law 2117 = .ok (.aload_n 1, 1) := by decide +kernel
theorem dL_law_2118 : decode cL_law 2118 = .ok (.aload_n 0, 1) := by decide +kernel
theorem dL_law_2119 : decode cL_law 2119 = .ok (.iload 4, 2) := by decide +kernel
theorem dL_law_2121 : decode cL_law 2121 = .ok (.iconst 1, 1) := by decide +kernel
theorem dL_law_2122 : decode cL_law 2122 = .ok (.iadd, 1) := by decide +kernel
theorem dL_law_2123 : decode cL_law 2123 = .ok (.iaload, 1) := by decide +kernel
theorem dL_law_2124 : decode cL_law 2124 = .ok (.aload_n 0, 1) := by decide +kernel
theorem dL_law_2125 : decode cL_law 2125 = .ok (.iload 4, 2) := by decide +kernel
theorem dL_law_2127 : decode cL_law 2127 = .ok (.iconst 2, 1) := by decide +kernel
theorem dL_law_2128 : decode cL_law 2128 = .ok (.iadd, 1) := by decide +kernel
theorem dL_law_2129 : decode cL_law 2129 = .ok (.iaload, 1) := by decide +kernel
theorem dL_law_2130 : decode cL_law 2130 = .ok (.aload_n 0, 1) := by decide +kernel
theorem dL_law_2131 : decode cL_law 2131 = .ok (.iload 4, 2) := by decide +kernel
theorem dL_law_2133 : decode cL_law 2133 = .ok (.iconst 3, 1) := by decide +kernel
theorem dL_law_2134 : decode cL_law 2134 = .ok (.iadd, 1) := by decide +kernel
theorem dL_law_2135 : decode cL_law 2135 = .ok (.iaload, 1) := by decide +kernel
theorem dL_law_2136 : decode cL_law 2136 = .ok (.invokestatic 250, 3) := by decide +kernel
theorem dL_law_2139 : decode cL_law 2139 = .ok (.istore 5, 2) := by decide +kernel
theorem dL_law_2141 : decode cL_law 2141 = .ok (.aload_n 2, 1) := by decide +kernel
theorem dL_law_2142 : decode cL_law 2142 = .ok (.aload_n 0, 1) := by decide +kernel
theorem dL_law_2143 : decode cL_law 2143 = .ok (.iload 4, 2) := by decide +kernel
theorem dL_law_2145 : decode cL_law 2145 = .ok (.iconst 1, 1) := by decide +kernel
theorem dL_law_2146 : decode cL_law 2146 = .ok (.iadd, 1) := by decide +kernel
theorem dL_law_2147 : decode cL_law 2147 = .ok (.iaload, 1) := by decide +kernel
theorem dL_law_2148 : decode cL_law 2148 = .ok (.aload_n 0, 1) := by decide +kernel
theorem dL_law_2149 : decode cL_law 2149 = .ok (.iload 4, 2) := by decide +kernel
theorem dL_law_2151 : decode cL_law 2151 = .ok (.iconst 2, 1) := by decide +kernel
theorem dL_law_2152 : decode cL_law 2152 = .ok (.iadd, 1) := by decide +kernel
theorem dL_law_2153 : decode cL_law 2153 = .ok (.iaload, 1) := by decide +kernel
theorem dL_law_2154 : decode cL_law 2154 = .ok (.aload_n 0, 1) := by decide +kernel
theorem dL_law_2155 : decode cL_law 2155 = .ok (.iload 4, 2) := by decide +kernel
theorem dL_law_2157 : decode cL_law 2157 = .ok (.iconst 3, 1) := by decide +kernel
theorem dL_law_2158 : decode cL_law 2158 = .ok (.iadd, 1) := by decide +kernel
theorem dL_law_2159 : decode cL_law 2159 = .ok (.iaload, 1) := by decide +kernel
theorem dL_law_2160 : decode cL_law 2160 = .ok (.invokevirtual 253, 3) := by decide +kernel
theorem dL_law_2163 : decode cL_law 2163 = .ok (.aload_n 2, 1) := by decide +kernel
theorem dL_law_2164 : decode cL_law 2164 = .ok (.invokevirtual 134, 3) := by decide +kernel
theorem dL_law_2167 : decode cL_law 2167 = .ok (.iload 5, 2) := by decide +kernel
theorem dL_law_2169 : decode cL_law 2169 = .ok (.if_icmp .eq 5, 3) := by decide +kernel
theorem dL_law_2172 : decode cL_law 2172 = .ok (.iconst 0, 1) := by decide +kernel
theorem dL_law_2173 : decode cL_law 2173 = .ok (.ireturn, 1) := by decide +kernel
theorem dL_law_2174 : decode cL_law 2174 = .ok (.goto 279, 3) := by decide +kernel
theorem dL_law_2177 : decode cL_law 2177 = .ok (.aload_n 1, 1) := by decide +kernel
theorem dL_law_2178 : decode cL_law 2178 = .ok (.aload_n 0, 1) := by decide +kernel
theorem dL_law_2179 : decode cL_law 2179 = .ok (.iload 4, 2) := by decide +kernel
theorem dL_law_2181 : decode cL_law 2181 = .ok (.iconst 1, 1) := by decide +kernel
theorem dL_law_2182 : decode cL_law 2182 = .ok (.iadd, 1) := by decide +kernel
theorem dL_law_2183 : decode cL_law 2183 = .ok (.iaload, 1) := by decide +kernel
theorem dL_law_2184 : decode cL_law 2184 = .ok (.aload_n 0, 1) := by decide +kernel
theorem dL_law_2185 : decode cL_law 2185 = .ok (.iload 4, 2) := by decide +kernel
theorem dL_law_2187 : decode cL_law 2187 = .ok (.iconst 2, 1) := by decide +kernel
theorem dL_law_2188 : decode cL_law 2188 = .ok (.iadd, 1) := by decide +kernel
theorem dL_law_2189 : decode cL_law 2189 = .ok (.iaload, 1) := by decide +kernel
theorem dL_law_2190 : decode cL_law 2190 = .ok (.aload_n 0, 1) := by decide +kernel
theorem dL_law_2191 : decode cL_law 2191 = .ok (.iload 4, 2) := by decide +kernel
theorem dL_law_2193 : decode cL_law 2193 = .ok (.iconst 3, 1) := by decide +kernel
theorem dL_law_2194 : decode cL_law 2194 = .ok (.iadd, 1) := by decide +kernel
theorem dL_law_2195 : decode cL_law 2195 = .ok (.iaload, 1) := by decide +kernel
theorem dL_law_2196 : decode cL_law 2196 = .ok (.i2l, 1) := by decide +kernel
theorem dL_law_2197 : decode cL_law 2197 = .ok (.bipush 32, 2) := by decide +kernel
theorem dL_law_2199 : decode cL_law 2199 = .ok (.lshl, 1) := by decide +kernel
theorem dL_law_2200 : decode cL_law 2200 = .ok (.aload_n 0, 1) := by decide +kernel
theorem dL_law_2201 : decode cL_law 2201 = .ok (.iload 4, 2) := by decide +kernel
theorem dL_law_2203 : decode cL_law 2203 = .ok (.iconst 4, 1) := by decide +kernel
theorem dL_law_2204 : decode cL_law 2204 = .ok (.iadd, 1) := by decide +kernel
theorem dL_law_2205 : decode cL_law 2205 = .ok (.iaload, 1) := by decide +kernel
theorem dL_law_2206 : decode cL_law 2206 = .ok (.i2l, 1) := by decide +kernel
theorem dL_law_2207 : decode cL_law 2207 = .ok (.ldc2_w 254, 3) := by decide +kernel
theorem dL_law_2210 : decode cL_law 2210 = .ok (.land, 1) := by decide +kernel
theorem dL_law_2211 : decode cL_law 2211 = .ok (.lor, 1) := by decide +kernel
theorem dL_law_2212 : decode cL_law 2212 = .ok (.aload_n 3, 1) := by decide +kernel
theorem dL_law_2213 : decode cL_law 2213 = .ok (.invokestatic 256, 3) := by decide +kernel
theorem dL_law_2216 : decode cL_law 2216 = .ok (.istore 5, 2) := by decide +kernel
theorem dL_law_2218 : decode cL_law 2218 = .ok (.aload_n 2, 1) := by decide +kernel
theorem dL_law_2219 : decode cL_law 2219 = .ok (.aload_n 0, 1) := by decide +kernel
theorem dL_law_2220 : decode cL_law 2220 = .ok (.iload 4, 2) := by decide +kernel
theorem dL_law_2222 : decode cL_law 2222 = .ok (.iconst 1, 1) := by decide +kernel
theorem dL_law_2223 : decode cL_law 2223 = .ok (.iadd, 1) := by decide +kernel
theorem dL_law_2224 : decode cL_law 2224 = .ok (.iaload, 1) := by decide +kernel
theorem dL_law_2225 : decode cL_law 2225 = .ok (.aload_n 0, 1) := by decide +kernel
theorem dL_law_2226 : decode cL_law 2226 = .ok (.iload 4, 2) := by decide +kernel
theorem dL_law_2228 : decode cL_law 2228 = .ok (.iconst 2, 1) := by decide +kernel
theorem dL_law_2229 : decode cL_law 2229 = .ok (.iadd, 1) := by decide +kernel
theorem dL_law_2230 : decode cL_law 2230 = .ok (.iaload, 1) := by decide +kernel
theorem dL_law_2231 : decode cL_law 2231 = .ok (.aload_n 0, 1) := by decide +kernel
theorem dL_law_2232 : decode cL_law 2232 = .ok (.iload 4, 2) := by decide +kernel
theorem dL_law_2234 : decode cL_law 2234 = .ok (.iconst 3, 1) := by decide +kernel
theorem dL_law_2235 : decode cL_law 2235 = .ok (.iadd, 1) := by decide +kernel
theorem dL_law_2236 : decode cL_law 2236 = .ok (.iaload, 1) := by decide +kernel
theorem dL_law_2237 : decode cL_law 2237 = .ok (.i2l, 1) := by decide +kernel
theorem dL_law_2238 : decode cL_law 2238 = .ok (.bipush 32, 2) := by decide +kernel
theorem dL_law_2240 : decode cL_law 2240 = .ok (.lshl, 1) := by decide +kernel
theorem dL_law_2241 : decode cL_law 2241 = .ok (.aload_n 0, 1) := by decide +kernel
theorem dL_law_2242 : decode cL_law 2242 = .ok (.iload 4, 2) := by decide +kernel
theorem dL_law_2244 : decode cL_law 2244 = .ok (.iconst 4, 1) := by decide +kernel
theorem dL_law_2245 : decode cL_law 2245 = .ok (.iadd, 1) := by decide +kernel
theorem dL_law_2246 : decode cL_law 2246 = .ok (.iaload, 1) := by decide +kernel
theorem dL_law_2247 : decode cL_law 2247 = .ok (.i2l, 1) := by decide +kernel
theorem dL_law_2248 : decode cL_law 2248 = .ok (.ldc2_w 254, 3) := by decide +kernel
theorem dL_law_2251 : decode cL_law 2251 = .ok (.land, 1) := by decide +kernel
theorem dL_law_2252 : decode cL_law 2252 = .ok (.lor, 1) := by decide +kernel
theorem dL_law_2253 : decode cL_law 2253 = .ok (.invokevirtual 259, 3) := by decide +kernel
theorem dL_law_2256 : decode cL_law 2256 = .ok (.lstore 6, 2) := by decide +kernel
theorem dL_law_2258 : decode cL_law 2258 = .ok (.aload_n 2, 1) := by decide +kernel
theorem dL_law_2259 : decode cL_law 2259 = .ok (.invokevirtual 134, 3) := by decide +kernel
theorem dL_law_2262 : decode cL_law 2262 = .ok (.iload 5, 2) := by decide +kernel
theorem dL_law_2264 : decode cL_law 2264 = .ok (.if_icmp .eq 5, 3) := by decide +kernel
theorem dL_law_2267 : decode cL_law 2267 = .ok (.iconst 0, 1) := by decide +kernel
theorem dL_law_2268 : decode cL_law 2268 = .ok (.ireturn, 1) := by decide +kernel
theorem dL_law_2269 : decode cL_law 2269 = .ok (.iload 5, 2) := by decide +kernel
theorem dL_law_2271 : decode cL_law 2271 = .ok (.ifCond .ne 14, 3) := by decide +kernel
theorem dL_law_2274 : decode cL_law 2274 = .ok (.aload_n 3, 1) := by decide +kernel
theorem dL_law_2275 : decode cL_law 2275 = .ok (.iconst 0, 1) := by decide +kernel
theorem dL_law_2276 : decode cL_law 2276 = .ok (.laload, 1) := by decide +kernel
theorem dL_law_2277 : decode cL_law 2277 = .ok (.lload 6, 2) := by decide +kernel
theorem dL_law_2279 : decode cL_law 2279 = .ok (.lcmp, 1) := by decide +kernel
theorem dL_law_2280 : decode cL_law 2280 = .ok (.ifCond .eq 5, 3) := by decide +kernel
theorem dL_law_2283 : decode cL_law 2283 = .ok (.iconst 0, 1) := by decide +kernel
theorem dL_law_2284 : decode cL_law 2284 = .ok (.ireturn, 1) := by decide +kernel
theorem dL_law_2285 : decode cL_law 2285 = .ok (.goto 168, 3) := by decide +kernel
theorem dL_law_2288 : decode cL_law 2288 = .ok (.aload_n 1, 1) := by decide +kernel
theorem dL_law_2289 : decode cL_law 2289 = .ok (.aload_n 0, 1) := by decide +kernel
theorem dL_law_2290 : decode cL_law 2290 = .ok (.iload 4, 2) := by decide +kernel
theorem dL_law_2292 : decode cL_law 2292 = .ok (.iconst 1, 1) := by decide +kernel
theorem dL_law_2293 : decode cL_law 2293 = .ok (.iadd, 1) := by decide +kernel
theorem dL_law_2294 : decode cL_law 2294 = .ok (.iaload, 1) := by decide +kernel
theorem dL_law_2295 : decode cL_law 2295 = .ok (.aload_n 0, 1) := by decide +kernel
theorem dL_law_2296 : decode cL_law 2296 = .ok (.iload 4, 2) := by decide +kernel
theorem dL_law_2298 : decode cL_law 2298 = .ok (.iconst 2, 1) := by decide +kernel
theorem dL_law_2299 : decode cL_law 2299 = .ok (.iadd, 1) := by decide +kernel
theorem dL_law_2300 : decode cL_law 2300 = .ok (.iaload, 1) := by decide +kernel
theorem dL_law_2301 : decode cL_law 2301 = .ok (.aload_n 3, 1) := by decide +kernel
theorem dL_law_2302 : decode cL_law 2302 = .ok (.invokestatic 260, 3) := by decide +kernel
theorem dL_law_2305 : decode cL_law 2305 = .ok (.istore 5, 2) := by decide +kernel
theorem dL_law_2307 : decode cL_law 2307 = .ok (.aload_n 2, 1) := by decide +kernel
theorem dL_law_2308 : decode cL_law 2308 = .ok (.aload_n 0, 1) := by decide +kernel
theorem dL_law_2309 : decode cL_law 2309 = .ok (.iload 4, 2) := by decide +kernel
theorem dL_law_2311 : decode cL_law 2311 = .ok (.iconst 1, 1) := by decide +kernel
theorem dL_law_2312 : decode cL_law 2312 = .ok (.iadd, 1) := by decide +kernel
theorem dL_law_2313 : decode cL_law 2313 = .ok (.iaload, 1) := by decide +kernel
theorem dL_law_2314 : decode cL_law 2314 = .ok (.aload_n 0, 1) := by decide +kernel
theorem dL_law_2315 : decode cL_law 2315 = .ok (.iload 4, 2) := by decide +kernel
theorem dL_law_2317 : decode cL_law 2317 = .ok (.iconst 2, 1) := by decide +kernel
theorem dL_law_2318 : decode cL_law 2318 = .ok (.iadd, 1) := by decide +kernel
theorem dL_law_2319 : decode cL_law 2319 = .ok (.iaload, 1) := by decide +kernel
theorem dL_law_2320 : decode cL_law 2320 = .ok (.invokevirtual 262, 3) := by decide +kernel
theorem dL_law_2323 : decode cL_law 2323 = .ok (.istore 6, 2) := by decide +kernel
theorem dL_law_2325 : decode cL_law 2325 = .ok (.aload_n 2, 1) := by decide +kernel
theorem dL_law_2326 : decode cL_law 2326 = .ok (.invokevirtual 134, 3) := by decide +kernel
theorem dL_law_2329 : decode cL_law 2329 = .ok (.iload 5, 2) := by decide +kernel
theorem dL_law_2331 : decode cL_law 2331 = .ok (.if_icmp .eq 5, 3) := by decide +kernel
theorem dL_law_2334 : decode cL_law 2334 = .ok (.iconst 0, 1) := by decide +kernel
theorem dL_law_2335 : decode cL_law 2335 = .ok (.ireturn, 1) := by decide +kernel
theorem dL_law_2336 : decode cL_law 2336 = .ok (.iload 5, 2) := by decide +kernel
theorem dL_law_2338 : decode cL_law 2338 = .ok (.ifCond .ne 15, 3) := by decide +kernel
theorem dL_law_2341 : decode cL_law 2341 = .ok (.aload_n 3, 1) := by decide +kernel
theorem dL_law_2342 : decode cL_law 2342 = .ok (.iconst 0, 1) := by decide +kernel
theorem dL_law_2343 : decode cL_law 2343 = .ok (.laload, 1) := by decide +kernel
theorem dL_law_2344 : decode cL_law 2344 = .ok (.iload 6, 2) := by decide +kernel
theorem dL_law_2346 : decode cL_law 2346 = .ok (.i2l, 1) := by decide +kernel
theorem dL_law_2347 : decode cL_law 2347 = .ok (.lcmp, 1) := by decide +kernel
theorem dL_law_2348 : decode cL_law 2348 = .ok (.ifCond .eq 5, 3) := by decide +kernel
theorem dL_law_2351 : decode cL_law 2351 = .ok (.iconst 0, 1) := by decide +kernel
theorem dL_law_2352 : decode cL_law 2352 = .ok (.ireturn, 1) := by decide +kernel
theorem dL_law_2353 : decode cL_law 2353 = .ok (.goto 100, 3) := by decide +kernel
theorem dL_law_2356 : decode cL_law 2356 = .ok (.aload_n 1, 1) := by decide +kernel
theorem dL_law_2357 : decode cL_law 2357 = .ok (.aload_n 0, 1) := by decide +kernel
theorem dL_law_2358 : decode cL_law 2358 = .ok (.iload 4, 2) := by decide +kernel
theorem dL_law_2360 : decode cL_law 2360 = .ok (.iconst 1, 1) := by decide +kernel
theorem dL_law_2361 : decode cL_law 2361 = .ok (.iadd, 1) := by decide +kernel
theorem dL_law_2362 : decode cL_law 2362 = .ok (.iaload, 1) := by decide +kernel
theorem dL_law_2363 : decode cL_law 2363 = .ok (.invokestatic 263, 3) := by decide +kernel
theorem dL_law_2366 : decode cL_law 2366 = .ok (.istore 5, 2) := by decide +kernel
theorem dL_law_2368 : decode cL_law 2368 = .ok (.aload_n 2, 1) := by decide +kernel
theorem dL_law_2369 : decode cL_law 2369 = .ok (.aload_n 0, 1) := by decide +kernel
theorem dL_law_2370 : decode cL_law 2370 = .ok (.iload 4, 2) := by decide +kernel
theorem dL_law_2372 : decode cL_law 2372 = .ok (.iconst 1, 1) := by decide +kernel
theorem dL_law_2373 : decode cL_law 2373 = .ok (.iadd, 1) := by decide +kernel
theorem dL_law_2374 : decode cL_law 2374 = .ok (.iaload, 1) := by decide +kernel
theorem dL_law_2375 : decode cL_law 2375 = .ok (.invokevirtual 266, 3) := by decide +kernel
theorem dL_law_2378 : decode cL_law 2378 = .ok (.aload_n 2, 1) := by decide +kernel
theorem dL_law_2379 : decode cL_law 2379 = .ok (.invokevirtual 134, 3) := by decide +kernel
theorem dL_law_2382 : decode cL_law 2382 = .ok (.iload 5, 2) := by decide +kernel
theorem dL_law_2384 : decode cL_law 2384 = .ok (.if_icmp .eq 5, 3) := by decide +kernel
theorem dL_law_2387 : decode cL_law 2387 = .ok (.iconst 0, 1) := by decide +kernel
theorem dL_law_2388 : decode cL_law 2388 = .ok (.ireturn, 1) := by decide +kernel
theorem dL_law_2389 : decode cL_law 2389 = .ok (.goto 64, 3) := by decide +kernel
theorem dL_law_2392 : decode cL_law 2392 = .ok (.aload_n 1, 1) := by decide +kernel
theorem dL_law_2393 : decode cL_law 2393 = .ok (.aload_n 0, 1) := by decide +kernel
theorem dL_law_2394 : decode cL_law 2394 = .ok (.iload 4, 2) := by decide +kernel
theorem dL_law_2396 : decode cL_law 2396 = .ok (.iconst 1, 1) := by decide +kernel
theorem dL_law_2397 : decode cL_law 2397 = .ok (.iadd, 1) := by decide +kernel
theorem dL_law_2398 : decode cL_law 2398 = .ok (.iaload, 1) := by decide +kernel
theorem dL_law_2399 : decode cL_law 2399 = .ok (.invokestatic 267, 3) := by decide +kernel
theorem dL_law_2402 : decode cL_law 2402 = .ok (.istore 5, 2) := by decide +kernel
theorem dL_law_2404 : decode cL_law 2404 = .ok (.aload_n 2, 1) := by decide +kernel
theorem dL_law_2405 : decode cL_law 2405 = .ok (.aload_n 0, 1) := by decide +kernel
theorem dL_law_2406 : decode cL_law 2406 = .ok (.iload 4, 2) := by decide +kernel
theorem dL_law_2408 : decode cL_law 2408 = .ok (.iconst 1, 1) := by decide +kernel
theorem dL_law_2409 : decode cL_law 2409 = .ok (.iadd, 1) := by decide +kernel
theorem dL_law_2410 : decode cL_law 2410 = .ok (.iaload, 1) := by decide +kernel
theorem dL_law_2411 : decode cL_law 2411 = .ok (.invokevirtual 269, 3) := by decide +kernel
theorem dL_law_2414 : decode cL_law 2414 = .ok (.aload_n 2, 1) := by decide +kernel
theorem dL_law_2415 : decode cL_law 2415 = .ok (.invokevirtual 134, 3) := by decide +kernel
theorem dL_law_2418 : decode cL_law 2418 = .ok (.iload 5, 2) := by decide +kernel
theorem dL_law_2420 : decode cL_law 2420 = .ok (.if_icmp .eq 5, 3) := by decide +kernel
theorem dL_law_2423 : decode cL_law 2423 = .ok (.iconst 0, 1) := by decide +kernel
theorem dL_law_2424 : decode cL_law 2424 = .ok (.ireturn, 1) := by decide +kernel
theorem dL_law_2425 : decode cL_law 2425 = .ok (.goto 28, 3) := by decide +kernel
theorem dL_law_2428 : decode cL_law 2428 = .ok (.aload_n 1, 1) := by decide +kernel
theorem dL_law_2429 : decode cL_law 2429 = .ok (.aload_n 0, 1) := by decide +kernel
theorem dL_law_2430 : decode cL_law 2430 = .ok (.iload 4, 2) := by decide +kernel
theorem dL_law_2432 : decode cL_law 2432 = .ok (.iconst 1, 1) := by decide +kernel
theorem dL_law_2433 : decode cL_law 2433 = .ok (.iadd, 1) := by decide +kernel
theorem dL_law_2434 : decode cL_law 2434 = .ok (.iaload, 1) := by decide +kernel
theorem dL_law_2435 : decode cL_law 2435 = .ok (.invokevirtual 270, 3) := by decide +kernel
theorem dL_law_2438 : decode cL_law 2438 = .ok (.aload_n 2, 1) := by decide +kernel
theorem dL_law_2439 : decode cL_law 2439 = .ok (.aload_n 0, 1) := by decide +kernel
theorem dL_law_2440 : decode cL_law 2440 = .ok (.iload 4, 2) := by decide +kernel
theorem dL_law_2442 : decode cL_law 2442 = .ok (.iconst 1, 1) := by decide +kernel
theorem dL_law_2443 : decode cL_law 2443 = .ok (.iadd, 1) := by decide +kernel
theorem dL_law_2444 : decode cL_law 2444 = .ok (.iaload, 1) := by decide +kernel
theorem dL_law_2445 : decode cL_law 2445 = .ok (.invokevirtual 273, 3) := by decide +kernel
theorem dL_law_2448 : decode cL_law 2448 = .ok (.if_icmp .eq 5, 3) := by decide +kernel
theorem dL_law_2451 : decode cL_law 2451 = .ok (.iconst 0, 1) := by decide +kernel
theorem dL_law_2452 : decode cL_law 2452 = .ok (.ireturn, 1) := by decide +kernel
theorem dL_law_2453 : decode cL_law 2453 = .ok (.iinc 4 6, 3) := by decide +kernel
theorem dL_law_2456 : decode cL_law 2456 = .ok (.goto (-2433), 3) := by decide +kernel
theorem dL_law_2459 : decode cL_law 2459 = .ok (.iconst 1, 1) := by decide +kernel
theorem dL_law_2460 : decode cL_law 2460 = .ok (.ireturn, 1) := by decide +kernel
