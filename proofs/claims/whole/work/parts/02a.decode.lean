theorem d_Menu_init_0 : decode b_Menu_init 0 = .ok (.aload_n 0, 1) := by decide +kernel
theorem d_Menu_init_1 : decode b_Menu_init 1 = .ok (.invokespecial 3, 3) := by decide +kernel
theorem d_Menu_init_4 : decode b_Menu_init 4 = .ok (.aload_n 0, 1) := by decide +kernel
theorem d_Menu_init_5 : decode b_Menu_init 5 = .ok (.bipush 9, 2) := by decide +kernel
theorem d_Menu_init_7 : decode b_Menu_init 7 = .ok (.newarray .int, 2) := by decide +kernel
theorem d_Menu_init_9 : decode b_Menu_init 9 = .ok (.putfield 9, 3) := by decide +kernel
theorem d_Menu_init_12 : decode b_Menu_init 12 = .ok (.aload_n 0, 1) := by decide +kernel
theorem d_Menu_init_13 : decode b_Menu_init 13 = .ok (.bipush 54, 2) := by decide +kernel
theorem d_Menu_init_15 : decode b_Menu_init 15 = .ok (.newarray .int, 2) := by decide +kernel
theorem d_Menu_init_17 : decode b_Menu_init 17 = .ok (.putfield 15, 3) := by decide +kernel
theorem d_Menu_init_20 : decode b_Menu_init 20 = .ok (.aload_n 0, 1) := by decide +kernel
theorem d_Menu_init_21 : decode b_Menu_init 21 = .ok (.bipush 6, 2) := by decide +kernel
theorem d_Menu_init_23 : decode b_Menu_init 23 = .ok (.newarray .int, 2) := by decide +kernel
theorem d_Menu_init_25 : decode b_Menu_init 25 = .ok (.putfield 18, 3) := by decide +kernel
theorem d_Menu_init_28 : decode b_Menu_init 28 = .ok (.return_, 1) := by decide +kernel
theorem d_Menu_clear_0 : decode b_Menu_clear 0 = .ok (.aload_n 0, 1) := by decide +kernel
theorem d_Menu_clear_1 : decode b_Menu_clear 1 = .ok (.iconst 4, 1) := by decide +kernel
theorem d_Menu_clear_2 : decode b_Menu_clear 2 = .ok (.putfield 21, 3) := by decide +kernel
theorem d_Menu_clear_5 : decode b_Menu_clear 5 = .ok (.aload_n 0, 1) := by decide +kernel
theorem d_Menu_clear_6 : decode b_Menu_clear 6 = .ok (.iconst 0, 1) := by decide +kernel
theorem d_Menu_clear_7 : decode b_Menu_clear 7 = .ok (.putfield 25, 3) := by decide +kernel
theorem d_Menu_clear_10 : decode b_Menu_clear 10 = .ok (.aload_n 0, 1) := by decide +kernel
theorem d_Menu_clear_11 : decode b_Menu_clear 11 = .ok (.iconst 1, 1) := by decide +kernel
theorem d_Menu_clear_12 : decode b_Menu_clear 12 = .ok (.putfield 28, 3) := by decide +kernel
theorem d_Menu_clear_15 : decode b_Menu_clear 15 = .ok (.aload_n 0, 1) := by decide +kernel
theorem d_Menu_clear_16 : decode b_Menu_clear 16 = .ok (.bipush 90, 2) := by decide +kernel
theorem d_Menu_clear_18 : decode b_Menu_clear 18 = .ok (.putfield 31, 3) := by decide +kernel
theorem d_Menu_clear_21 : decode b_Menu_clear 21 = .ok (.aload_n 0, 1) := by decide +kernel
theorem d_Menu_clear_22 : decode b_Menu_clear 22 = .ok (.bipush 20, 2) := by decide +kernel
theorem d_Menu_clear_24 : decode b_Menu_clear 24 = .ok (.putfield 34, 3) := by decide +kernel
theorem d_Menu_clear_27 : decode b_Menu_clear 27 = .ok (.iconst 0, 1) := by decide +kernel
theorem d_Menu_clear_28 : decode b_Menu_clear 28 = .ok (.istore_n 1, 1) := by decide +kernel
theorem d_Menu_clear_29 : decode b_Menu_clear 29 = .ok (.iload_n 1, 1) := by decide +kernel
theorem d_Menu_clear_30 : decode b_Menu_clear 30 = .ok (.bipush 6, 2) := by decide +kernel
theorem d_Menu_clear_32 : decode b_Menu_clear 32 = .ok (.if_icmp .ge 19, 3) := by decide +kernel
theorem d_Menu_clear_35 : decode b_Menu_clear 35 = .ok (.aload_n 0, 1) := by decide +kernel
theorem d_Menu_clear_36 : decode b_Menu_clear 36 = .ok (.getfield 18, 3) := by decide +kernel
theorem d_Menu_clear_39 : decode b_Menu_clear 39 = .ok (.iload_n 1, 1) := by decide +kernel
theorem d_Menu_clear_40 : decode b_Menu_clear 40 = .ok (.bipush 20, 2) := by decide +kernel
theorem d_Menu_clear_42 : decode b_Menu_clear 42 = .ok (.invokestatic 37, 3) := by decide +kernel
theorem d_Menu_clear_45 : decode b_Menu_clear 45 = .ok (.iinc 1 1, 3) := by decide +kernel
theorem d_Menu_clear_48 : decode b_Menu_clear 48 = .ok (.goto (-19), 3) := by decide +kernel
theorem d_Menu_clear_51 : decode b_Menu_clear 51 = .ok (.return_, 1) := by decide +kernel
theorem d_Menu_hasGuest_0 : decode b_Menu_hasGuest 0 = .ok (.iload_n 1, 1) := by decide +kernel
theorem d_Menu_hasGuest_1 : decode b_Menu_hasGuest 1 = .ok (.ifCond .lt 15, 3) := by decide +kernel
theorem d_Menu_hasGuest_4 : decode b_Menu_hasGuest 4 = .ok (.iload_n 1, 1) := by decide +kernel
theorem d_Menu_hasGuest_5 : decode b_Menu_hasGuest 5 = .ok (.aload_n 0, 1) := by decide +kernel
theorem d_Menu_hasGuest_6 : decode b_Menu_hasGuest 6 = .ok (.getfield 25, 3) := by decide +kernel
theorem d_Menu_hasGuest_9 : decode b_Menu_hasGuest 9 = .ok (.if_icmp .ge 7, 3) := by decide +kernel
theorem d_Menu_hasGuest_12 : decode b_Menu_hasGuest 12 = .ok (.iconst 1, 1) := by decide +kernel
theorem d_Menu_hasGuest_13 : decode b_Menu_hasGuest 13 = .ok (.goto 4, 3) := by decide +kernel
theorem d_Menu_hasGuest_16 : decode b_Menu_hasGuest 16 = .ok (.iconst 0, 1) := by decide +kernel
theorem d_Menu_hasGuest_17 : decode b_Menu_hasGuest 17 = .ok (.ireturn, 1) := by decide +kernel
theorem d_Menu_hasDish_0 : decode b_Menu_hasDish 0 = .ok (.iload_n 1, 1) := by decide +kernel
theorem d_Menu_hasDish_1 : decode b_Menu_hasDish 1 = .ok (.ifCond .lt 15, 3) := by decide +kernel
theorem d_Menu_hasDish_4 : decode b_Menu_hasDish 4 = .ok (.iload_n 1, 1) := by decide +kernel
theorem d_Menu_hasDish_5 : decode b_Menu_hasDish 5 = .ok (.aload_n 0, 1) := by decide +kernel
theorem d_Menu_hasDish_6 : decode b_Menu_hasDish 6 = .ok (.getfield 21, 3) := by decide +kernel
theorem d_Menu_hasDish_9 : decode b_Menu_hasDish 9 = .ok (.if_icmp .ge 7, 3) := by decide +kernel
theorem d_Menu_hasDish_12 : decode b_Menu_hasDish 12 = .ok (.iconst 1, 1) := by decide +kernel
theorem d_Menu_hasDish_13 : decode b_Menu_hasDish 13 = .ok (.goto 4, 3) := by decide +kernel
theorem d_Menu_hasDish_16 : decode b_Menu_hasDish 16 = .ok (.iconst 0, 1) := by decide +kernel
theorem d_Menu_hasDish_17 : decode b_Menu_hasDish 17 = .ok (.ireturn, 1) := by decide +kernel
theorem d_Menu_allDishes_0 : decode b_Menu_allDishes 0 = .ok (.iconst 1, 1) := by decide +kernel
theorem d_Menu_allDishes_1 : decode b_Menu_allDishes 1 = .ok (.aload_n 0, 1) := by decide +kernel
theorem d_Menu_allDishes_2 : decode b_Menu_allDishes 2 = .ok (.getfield 21, 3) := by decide +kernel
theorem d_Menu_allDishes_5 : decode b_Menu_allDishes 5 = .ok (.ishl, 1) := by decide +kernel
theorem d_Menu_allDishes_6 : decode b_Menu_allDishes 6 = .ok (.iconst 1, 1) := by decide +kernel
theorem d_Menu_allDishes_7 : decode b_Menu_allDishes 7 = .ok (.isub, 1) := by decide +kernel
theorem d_Menu_allDishes_8 : decode b_Menu_allDishes 8 = .ok (.ireturn, 1) := by decide +kernel
theorem d_Menu_kindOf_0 : decode b_Menu_kindOf 0 = .ok (.aload_n 0, 1) := by decide +kernel
theorem d_Menu_kindOf_1 : decode b_Menu_kindOf 1 = .ok (.getfield 9, 3) := by decide +kernel
theorem d_Menu_kindOf_4 : decode b_Menu_kindOf 4 = .ok (.iload_n 1, 1) := by decide +kernel
theorem d_Menu_kindOf_5 : decode b_Menu_kindOf 5 = .ok (.invokestatic 41, 3) := by decide +kernel
theorem d_Menu_kindOf_8 : decode b_Menu_kindOf 8 = .ok (.ireturn, 1) := by decide +kernel
theorem d_Menu_minutesOf_0 : decode b_Menu_minutesOf 0 = .ok (.aload_n 0, 1) := by decide +kernel
theorem d_Menu_minutesOf_1 : decode b_Menu_minutesOf 1 = .ok (.getfield 18, 3) := by decide +kernel
theorem d_Menu_minutesOf_4 : decode b_Menu_minutesOf 4 = .ok (.iload_n 1, 1) := by decide +kernel
theorem d_Menu_minutesOf_5 : decode b_Menu_minutesOf 5 = .ok (.invokestatic 41, 3) := by decide +kernel
theorem d_Menu_minutesOf_8 : decode b_Menu_minutesOf 8 = .ok (.ireturn, 1) := by decide +kernel
theorem d_Menu_isInTime_0 : decode b_Menu_isInTime 0 = .ok (.iload_n 2, 1) := by decide +kernel
theorem d_Menu_isInTime_1 : decode b_Menu_isInTime 1 = .ok (.aload_n 0, 1) := by decide +kernel
theorem d_Menu_isInTime_2 : decode b_Menu_isInTime 2 = .ok (.iload_n 1, 1) := by decide +kernel
theorem d_Menu_isInTime_3 : decode b_Menu_isInTime 3 = .ok (.invokevirtual 45, 3) := by decide +kernel
theorem d_Menu_isInTime_6 : decode b_Menu_isInTime 6 = .ok (.iadd, 1) := by decide +kernel
theorem d_Menu_isInTime_7 : decode b_Menu_isInTime 7 = .ok (.aload_n 0, 1) := by decide +kernel
theorem d_Menu_isInTime_8 : decode b_Menu_isInTime 8 = .ok (.getfield 31, 3) := by decide +kernel
theorem d_Menu_isInTime_11 : decode b_Menu_isInTime 11 = .ok (.if_icmp .gt 7, 3) := by decide +kernel
theorem d_Menu_isInTime_14 : decode b_Menu_isInTime 14 = .ok (.iconst 1, 1) := by decide +kernel
theorem d_Menu_isInTime_15 : decode b_Menu_isInTime 15 = .ok (.goto 4, 3) := by decide +kernel
theorem d_Menu_isInTime_18 : decode b_Menu_isInTime 18 = .ok (.iconst 0, 1) := by decide +kernel
theorem d_Menu_isInTime_19 : decode b_Menu_isInTime 19 = .ok (.ireturn, 1) := by decide +kernel
theorem d_Menu_toldWorth_0 : decode b_Menu_toldWorth 0 = .ok (.aload_n 0, 1) := by decide +kernel
theorem d_Menu_toldWorth_1 : decode b_Menu_toldWorth 1 = .ok (.iload_n 1, 1) := by decide +kernel
theorem d_Menu_toldWorth_2 : decode b_Menu_toldWorth 2 = .ok (.invokevirtual 49, 3) := by decide +kernel
theorem d_Menu_toldWorth_5 : decode b_Menu_toldWorth 5 = .ok (.ifCond .eq 27, 3) := by decide +kernel
theorem d_Menu_toldWorth_8 : decode b_Menu_toldWorth 8 = .ok (.aload_n 0, 1) := by decide +kernel
theorem d_Menu_toldWorth_9 : decode b_Menu_toldWorth 9 = .ok (.iload_n 2, 1) := by decide +kernel
theorem d_Menu_toldWorth_10 : decode b_Menu_toldWorth 10 = .ok (.invokevirtual 53, 3) := by decide +kernel
theorem d_Menu_toldWorth_13 : decode b_Menu_toldWorth 13 = .ok (.ifCond .eq 19, 3) := by decide +kernel
theorem d_Menu_toldWorth_16 : decode b_Menu_toldWorth 16 = .ok (.aload_n 0, 1) := by decide +kernel
theorem d_Menu_toldWorth_17 : decode b_Menu_toldWorth 17 = .ok (.getfield 15, 3) := by decide +kernel
theorem d_Menu_toldWorth_20 : decode b_Menu_toldWorth 20 = .ok (.iload_n 1, 1) := by decide +kernel
theorem d_Menu_toldWorth_21 : decode b_Menu_toldWorth 21 = .ok (.bipush 6, 2) := by decide +kernel
theorem d_Menu_toldWorth_23 : decode b_Menu_toldWorth 23 = .ok (.imul, 1) := by decide +kernel
theorem d_Menu_toldWorth_24 : decode b_Menu_toldWorth 24 = .ok (.iload_n 2, 1) := by decide +kernel
theorem d_Menu_toldWorth_25 : decode b_Menu_toldWorth 25 = .ok (.iadd, 1) := by decide +kernel
theorem d_Menu_toldWorth_26 : decode b_Menu_toldWorth 26 = .ok (.invokestatic 41, 3) := by decide +kernel
theorem d_Menu_toldWorth_29 : decode b_Menu_toldWorth 29 = .ok (.goto 4, 3) := by decide +kernel
theorem d_Menu_toldWorth_32 : decode b_Menu_toldWorth 32 = .ok (.iconst 0, 1) := by decide +kernel
theorem d_Menu_toldWorth_33 : decode b_Menu_toldWorth 33 = .ok (.ireturn, 1) := by decide +kernel
theorem d_Moment_init_0 : decode b_Moment_init 0 = .ok (.aload_n 0, 1) := by decide +kernel
theorem d_Moment_init_1 : decode b_Moment_init 1 = .ok (.invokespecial 3, 3) := by decide +kernel
theorem d_Moment_init_4 : decode b_Moment_init 4 = .ok (.aload_n 0, 1) := by decide +kernel
theorem d_Moment_init_5 : decode b_Moment_init 5 = .ok (.aload_n 1, 1) := by decide +kernel
theorem d_Moment_init_6 : decode b_Moment_init 6 = .ok (.putfield 9, 3) := by decide +kernel
theorem d_Moment_init_9 : decode b_Moment_init 9 = .ok (.return_, 1) := by decide +kernel
theorem d_Moment_value_0 : decode b_Moment_value 0 = .ok (.aload_n 0, 1) := by decide +kernel
theorem d_Moment_value_1 : decode b_Moment_value 1 = .ok (.getfield 9, 3) := by decide +kernel
theorem d_Moment_value_4 : decode b_Moment_value 4 = .ok (.iload_n 1, 1) := by decide +kernel
theorem d_Moment_value_5 : decode b_Moment_value 5 = .ok (.iload_n 2, 1) := by decide +kernel
theorem d_Moment_value_6 : decode b_Moment_value 6 = .ok (.invokevirtual 15, 3) := by decide +kernel
theorem d_Moment_value_9 : decode b_Moment_value 9 = .ok (.istore_n 3, 1) := by decide +kernel
theorem d_Moment_value_10 : decode b_Moment_value 10 = .ok (.iload_n 3, 1) := by decide +kernel
theorem d_Moment_value_11 : decode b_Moment_value 11 = .ok (.ifCond .eq 14, 3) := by decide +kernel
theorem d_Moment_value_14 : decode b_Moment_value 14 = .ok (.aload_n 0, 1) := by decide +kernel
theorem d_Moment_value_15 : decode b_Moment_value 15 = .ok (.getfield 9, 3) := by decide +kernel
theorem d_Moment_value_18 : decode b_Moment_value 18 = .ok (.getfield 21, 3) := by decide +kernel
theorem d_Moment_value_21 : decode b_Moment_value 21 = .ok (.iconst 1, 1) := by decide +kernel
theorem d_Moment_value_22 : decode b_Moment_value 22 = .ok (.if_icmp .ge 5, 3) := by decide +kernel
theorem d_Moment_value_25 : decode b_Moment_value 25 = .ok (.iload_n 3, 1) := by decide +kernel
theorem d_Moment_value_26 : decode b_Moment_value 26 = .ok (.ireturn, 1) := by decide +kernel
theorem d_Moment_value_27 : decode b_Moment_value 27 = .ok (.bipush 9, 2) := by decide +kernel
theorem d_Moment_value_29 : decode b_Moment_value 29 = .ok (.iload_n 3, 1) := by decide +kernel
theorem d_Moment_value_30 : decode b_Moment_value 30 = .ok (.aload_n 0, 1) := by decide +kernel
theorem d_Moment_value_31 : decode b_Moment_value 31 = .ok (.getfield 25, 3) := by decide +kernel
theorem d_Moment_value_34 : decode b_Moment_value 34 = .ok (.aload_n 0, 1) := by decide +kernel
theorem d_Moment_value_35 : decode b_Moment_value 35 = .ok (.getfield 9, 3) := by decide +kernel
theorem d_Moment_value_38 : decode b_Moment_value 38 = .ok (.getfield 21, 3) := by decide +kernel
theorem d_Moment_value_41 : decode b_Moment_value 41 = .ok (.idiv, 1) := by decide +kernel
theorem d_Moment_value_42 : decode b_Moment_value 42 = .ok (.iadd, 1) := by decide +kernel
theorem d_Moment_value_43 : decode b_Moment_value 43 = .ok (.invokestatic 28, 3) := by decide +kernel
theorem d_Moment_value_46 : decode b_Moment_value 46 = .ok (.ireturn, 1) := by decide +kernel
theorem d_Moment_together_0 : decode b_Moment_together 0 = .ok (.iconst 0, 1) := by decide +kernel
theorem d_Moment_together_1 : decode b_Moment_together 1 = .ok (.istore_n 3, 1) := by decide +kernel
theorem d_Moment_together_2 : decode b_Moment_together 2 = .ok (.iconst 0, 1) := by decide +kernel
theorem d_Moment_together_3 : decode b_Moment_together 3 = .ok (.istore 4, 2) := by decide +kernel
theorem d_Moment_together_5 : decode b_Moment_together 5 = .ok (.iload 4, 2) := by decide +kernel
theorem d_Moment_together_7 : decode b_Moment_together 7 = .ok (.aload_n 0, 1) := by decide +kernel
theorem d_Moment_together_8 : decode b_Moment_together 8 = .ok (.getfield 9, 3) := by decide +kernel
theorem d_Moment_together_11 : decode b_Moment_together 11 = .ok (.getfield 33, 3) := by decide +kernel
theorem d_Moment_together_14 : decode b_Moment_together 14 = .ok (.if_icmp .ge 25, 3) := by decide +kernel
theorem d_Moment_together_17 : decode b_Moment_together 17 = .ok (.iload 4, 2) := by decide +kernel
theorem d_Moment_together_19 : decode b_Moment_together 19 = .ok (.iload_n 2, 1) := by decide +kernel
theorem d_Moment_together_20 : decode b_Moment_together 20 = .ok (.if_icmp .eq 13, 3) := by decide +kernel
theorem d_Moment_together_23 : decode b_Moment_together 23 = .ok (.iload_n 3, 1) := by decide +kernel
theorem d_Moment_together_24 : decode b_Moment_together 24 = .ok (.aload_n 0, 1) := by decide +kernel
theorem d_Moment_together_25 : decode b_Moment_together 25 = .ok (.iload 4, 2) := by decide +kernel
theorem d_Moment_together_27 : decode b_Moment_together 27 = .ok (.iload_n 1, 1) := by decide +kernel
theorem d_Moment_together_28 : decode b_Moment_together 28 = .ok (.invokevirtual 36, 3) := by decide +kernel
theorem d_Moment_together_31 : decode b_Moment_together 31 = .ok (.iadd, 1) := by decide +kernel
theorem d_Moment_together_32 : decode b_Moment_together 32 = .ok (.istore_n 3, 1) := by decide +kernel
theorem d_Moment_together_33 : decode b_Moment_together 33 = .ok (.iinc 4 1, 3) := by decide +kernel
theorem d_Moment_together_36 : decode b_Moment_together 36 = .ok (.goto (-31), 3) := by decide +kernel
theorem d_Moment_together_39 : decode b_Moment_together 39 = .ok (.iload_n 3, 1) := by decide +kernel
theorem d_Moment_together_40 : decode b_Moment_together 40 = .ok (.ireturn, 1) := by decide +kernel
theorem d_Moment_leastWorth_0 : decode b_Moment_leastWorth 0 = .ok (.bipush 9, 2) := by decide +kernel
theorem d_Moment_leastWorth_2 : decode b_Moment_leastWorth 2 = .ok (.istore_n 2, 1) := by decide +kernel
theorem d_Moment_leastWorth_3 : decode b_Moment_leastWorth 3 = .ok (.iconst 0, 1) := by decide +kernel
theorem d_Moment_leastWorth_4 : decode b_Moment_leastWorth 4 = .ok (.istore_n 3, 1) := by decide +kernel
theorem d_Moment_leastWorth_5 : decode b_Moment_leastWorth 5 = .ok (.iload_n 3, 1) := by decide +kernel
theorem d_Moment_leastWorth_6 : decode b_Moment_leastWorth 6 = .ok (.aload_n 0, 1) := by decide +kernel
theorem d_Moment_leastWorth_7 : decode b_Moment_leastWorth 7 = .ok (.getfield 9, 3) := by decide +kernel
theorem d_Moment_leastWorth_10 : decode b_Moment_leastWorth 10 = .ok (.getfield 33, 3) := by decide +kernel
theorem d_Moment_leastWorth_13 : decode b_Moment_leastWorth 13 = .ok (.if_icmp .ge 20, 3) := by decide +kernel
theorem d_Moment_leastWorth_16 : decode b_Moment_leastWorth 16 = .ok (.iload_n 2, 1) := by decide +kernel
theorem d_Moment_leastWorth_17 : decode b_Moment_leastWorth 17 = .ok (.aload_n 0, 1) := by decide +kernel
theorem d_Moment_leastWorth_18 : decode b_Moment_leastWorth 18 = .ok (.iload_n 3, 1) := by decide +kernel
theorem d_Moment_leastWorth_19 : decode b_Moment_leastWorth 19 = .ok (.iload_n 1, 1) := by decide +kernel
theorem d_Moment_leastWorth_20 : decode b_Moment_leastWorth 20 = .ok (.invokevirtual 36, 3) := by decide +kernel
theorem d_Moment_leastWorth_23 : decode b_Moment_leastWorth 23 = .ok (.invokestatic 28, 3) := by decide +kernel
theorem d_Moment_leastWorth_26 : decode b_Moment_leastWorth 26 = .ok (.istore_n 2, 1) := by decide +kernel
theorem d_Moment_leastWorth_27 : decode b_Moment_leastWorth 27 = .ok (.iinc 3 1, 3) := by decide +kernel
theorem d_Moment_leastWorth_30 : decode b_Moment_leastWorth 30 = .ok (.goto (-25), 3) := by decide +kernel
theorem d_Moment_leastWorth_33 : decode b_Moment_leastWorth 33 = .ok (.iload_n 2, 1) := by decide +kernel
theorem d_Moment_leastWorth_34 : decode b_Moment_leastWorth 34 = .ok (.ireturn, 1) := by decide +kernel
theorem d_Moment_opponent_0 : decode b_Moment_opponent 0 = .ok (.iconst 0, 1) := by decide +kernel
theorem d_Moment_opponent_1 : decode b_Moment_opponent 1 = .ok (.istore_n 2, 1) := by decide +kernel
theorem d_Moment_opponent_2 : decode b_Moment_opponent 2 = .ok (.iconst 1, 1) := by decide +kernel
theorem d_Moment_opponent_3 : decode b_Moment_opponent 3 = .ok (.istore_n 3, 1) := by decide +kernel
theorem d_Moment_opponent_4 : decode b_Moment_opponent 4 = .ok (.iload_n 3, 1) := by decide +kernel
theorem d_Moment_opponent_5 : decode b_Moment_opponent 5 = .ok (.aload_n 0, 1) := by decide +kernel
theorem d_Moment_opponent_6 : decode b_Moment_opponent 6 = .ok (.getfield 9, 3) := by decide +kernel
theorem d_Moment_opponent_9 : decode b_Moment_opponent 9 = .ok (.getfield 33, 3) := by decide +kernel
theorem d_Moment_opponent_12 : decode b_Moment_opponent 12 = .ok (.if_icmp .ge 26, 3) := by decide +kernel
theorem d_Moment_opponent_15 : decode b_Moment_opponent 15 = .ok (.aload_n 0, 1) := by decide +kernel
theorem d_Moment_opponent_16 : decode b_Moment_opponent 16 = .ok (.iload_n 3, 1) := by decide +kernel
theorem d_Moment_opponent_17 : decode b_Moment_opponent 17 = .ok (.iload_n 1, 1) := by decide +kernel
theorem d_Moment_opponent_18 : decode b_Moment_opponent 18 = .ok (.invokevirtual 36, 3) := by decide +kernel
theorem d_Moment_opponent_21 : decode b_Moment_opponent 21 = .ok (.aload_n 0, 1) := by decide +kernel
theorem d_Moment_opponent_22 : decode b_Moment_opponent 22 = .ok (.iload_n 2, 1) := by decide +kernel
theorem d_Moment_opponent_23 : decode b_Moment_opponent 23 = .ok (.iload_n 1, 1) := by decide +kernel
theorem d_Moment_opponent_24 : decode b_Moment_opponent 24 = .ok (.invokevirtual 36, 3) := by decide +kernel
theorem d_Moment_opponent_27 : decode b_Moment_opponent 27 = .ok (.if_icmp .ge 5, 3) := by decide +kernel
theorem d_Moment_opponent_30 : decode b_Moment_opponent 30 = .ok (.iload_n 3, 1) := by decide +kernel
theorem d_Moment_opponent_31 : decode b_Moment_opponent 31 = .ok (.istore_n 2, 1) := by decide +kernel
theorem d_Moment_opponent_32 : decode b_Moment_opponent 32 = .ok (.iinc 3 1, 3) := by decide +kernel
theorem d_Moment_opponent_35 : decode b_Moment_opponent 35 = .ok (.goto (-31), 3) := by decide +kernel
theorem d_Moment_opponent_38 : decode b_Moment_opponent 38 = .ok (.iload_n 2, 1) := by decide +kernel
theorem d_Moment_opponent_39 : decode b_Moment_opponent 39 = .ok (.ireturn, 1) := by decide +kernel
theorem d_Moment_favourite_0 : decode b_Moment_favourite 0 = .ok (.iconst (-1), 1) := by decide +kernel
theorem d_Moment_favourite_1 : decode b_Moment_favourite 1 = .ok (.istore_n 2, 1) := by decide +kernel
theorem d_Moment_favourite_2 : decode b_Moment_favourite 2 = .ok (.iconst 0, 1) := by decide +kernel
theorem d_Moment_favourite_3 : decode b_Moment_favourite 3 = .ok (.istore_n 3, 1) := by decide +kernel
theorem d_Moment_favourite_4 : decode b_Moment_favourite 4 = .ok (.iload_n 3, 1) := by decide +kernel
theorem d_Moment_favourite_5 : decode b_Moment_favourite 5 = .ok (.aload_n 0, 1) := by decide +kernel
theorem d_Moment_favourite_6 : decode b_Moment_favourite 6 = .ok (.getfield 9, 3) := by decide +kernel
theorem d_Moment_favourite_9 : decode b_Moment_favourite 9 = .ok (.getfield 39, 3) := by decide +kernel
theorem d_Moment_favourite_12 : decode b_Moment_favourite 12 = .ok (.if_icmp .ge 42, 3) := by decide +kernel
theorem d_Moment_favourite_15 : decode b_Moment_favourite 15 = .ok (.aload_n 0, 1) := by decide +kernel
theorem d_Moment_favourite_16 : decode b_Moment_favourite 16 = .ok (.getfield 42, 3) := by decide +kernel
theorem d_Moment_favourite_19 : decode b_Moment_favourite 19 = .ok (.iload_n 3, 1) := by decide +kernel
theorem d_Moment_favourite_20 : decode b_Moment_favourite 20 = .ok (.invokestatic 45, 3) := by decide +kernel
theorem d_Moment_favourite_23 : decode b_Moment_favourite 23 = .ok (.ifCond .eq 25, 3) := by decide +kernel
theorem d_Moment_favourite_26 : decode b_Moment_favourite 26 = .ok (.iload_n 2, 1) := by decide +kernel
theorem d_Moment_favourite_27 : decode b_Moment_favourite 27 = .ok (.iconst (-1), 1) := by decide +kernel
theorem d_Moment_favourite_28 : decode b_Moment_favourite 28 = .ok (.if_icmp .eq 18, 3) := by decide +kernel
theorem d_Moment_favourite_31 : decode b_Moment_favourite 31 = .ok (.aload_n 0, 1) := by decide +kernel
theorem d_Moment_favourite_32 : decode b_Moment_favourite 32 = .ok (.iload_n 1, 1) := by decide +kernel
theorem d_Moment_favourite_33 : decode b_Moment_favourite 33 = .ok (.iload_n 3, 1) := by decide +kernel
theorem d_Moment_favourite_34 : decode b_Moment_favourite 34 = .ok (.invokevirtual 36, 3) := by decide +kernel
theorem d_Moment_favourite_37 : decode b_Moment_favourite 37 = .ok (.aload_n 0, 1) := by decide +kernel
theorem d_Moment_favourite_38 : decode b_Moment_favourite 38 = .ok (.iload_n 1, 1) := by decide +kernel
theorem d_Moment_favourite_39 : decode b_Moment_favourite 39 = .ok (.iload_n 2, 1) := by decide +kernel
theorem d_Moment_favourite_40 : decode b_Moment_favourite 40 = .ok (.invokevirtual 36, 3) := by decide +kernel
theorem d_Moment_favourite_43 : decode b_Moment_favourite 43 = .ok (.if_icmp .le 5, 3) := by decide +kernel
theorem d_Moment_favourite_46 : decode b_Moment_favourite 46 = .ok (.iload_n 3, 1) := by decide +kernel
theorem d_Moment_favourite_47 : decode b_Moment_favourite 47 = .ok (.istore_n 2, 1) := by decide +kernel
theorem d_Moment_favourite_48 : decode b_Moment_favourite 48 = .ok (.iinc 3 1, 3) := by decide +kernel
theorem d_Moment_favourite_51 : decode b_Moment_favourite 51 = .ok (.goto (-47), 3) := by decide +kernel
theorem d_Moment_favourite_54 : decode b_Moment_favourite 54 = .ok (.iload_n 2, 1) := by decide +kernel
theorem d_Moment_favourite_55 : decode b_Moment_favourite 55 = .ok (.ireturn, 1) := by decide +kernel
theorem d_Moment_leastLiked_0 : decode b_Moment_leastLiked 0 = .ok (.iconst (-1), 1) := by decide +kernel
theorem d_Moment_leastLiked_1 : decode b_Moment_leastLiked 1 = .ok (.istore_n 3, 1) := by decide +kernel
theorem d_Moment_leastLiked_2 : decode b_Moment_leastLiked 2 = .ok (.iconst 0, 1) := by decide +kernel
theorem d_Moment_leastLiked_3 : decode b_Moment_leastLiked 3 = .ok (.istore 4, 2) := by decide +kernel
theorem d_Moment_leastLiked_5 : decode b_Moment_leastLiked 5 = .ok (.iload 4, 2) := by decide +kernel
theorem d_Moment_leastLiked_7 : decode b_Moment_leastLiked 7 = .ok (.aload_n 0, 1) := by decide +kernel
theorem d_Moment_leastLiked_8 : decode b_Moment_leastLiked 8 = .ok (.getfield 9, 3) := by decide +kernel
theorem d_Moment_leastLiked_11 : decode b_Moment_leastLiked 11 = .ok (.getfield 39, 3) := by decide +kernel
theorem d_Moment_leastLiked_14 : decode b_Moment_leastLiked 14 = .ok (.if_icmp .ge 42, 3) := by decide +kernel
theorem d_Moment_leastLiked_17 : decode b_Moment_leastLiked 17 = .ok (.iload_n 2, 1) := by decide +kernel
theorem d_Moment_leastLiked_18 : decode b_Moment_leastLiked 18 = .ok (.iload 4, 2) := by decide +kernel
theorem d_Moment_leastLiked_20 : decode b_Moment_leastLiked 20 = .ok (.invokestatic 45, 3) := by decide +kernel
theorem d_Moment_leastLiked_23 : decode b_Moment_leastLiked 23 = .ok (.ifCond .eq 27, 3) := by decide +kernel
theorem d_Moment_leastLiked_26 : decode b_Moment_leastLiked 26 = .ok (.iload_n 3, 1) := by decide +kernel
theorem d_Moment_leastLiked_27 : decode b_Moment_leastLiked 27 = .ok (.iconst (-1), 1) := by decide +kernel
theorem d_Moment_leastLiked_28 : decode b_Moment_leastLiked 28 = .ok (.if_icmp .eq 19, 3) := by decide +kernel
theorem d_Moment_leastLiked_31 : decode b_Moment_leastLiked 31 = .ok (.aload_n 0, 1) := by decide +kernel
theorem d_Moment_leastLiked_32 : decode b_Moment_leastLiked 32 = .ok (.iload_n 1, 1) := by decide +kernel
theorem d_Moment_leastLiked_33 : decode b_Moment_leastLiked 33 = .ok (.iload 4, 2) := by decide +kernel
theorem d_Moment_leastLiked_35 : decode b_Moment_leastLiked 35 = .ok (.invokevirtual 36, 3) := by decide +kernel
theorem d_Moment_leastLiked_38 : decode b_Moment_leastLiked 38 = .ok (.aload_n 0, 1) := by decide +kernel
theorem d_Moment_leastLiked_39 : decode b_Moment_leastLiked 39 = .ok (.iload_n 1, 1) := by decide +kernel
theorem d_Moment_leastLiked_40 : decode b_Moment_leastLiked 40 = .ok (.iload_n 3, 1) := by decide +kernel
theorem d_Moment_leastLiked_41 : decode b_Moment_leastLiked 41 = .ok (.invokevirtual 36, 3) := by decide +kernel
theorem d_Moment_leastLiked_44 : decode b_Moment_leastLiked 44 = .ok (.if_icmp .gt 6, 3) := by decide +kernel
theorem d_Moment_leastLiked_47 : decode b_Moment_leastLiked 47 = .ok (.iload 4, 2) := by decide +kernel
theorem d_Moment_leastLiked_49 : decode b_Moment_leastLiked 49 = .ok (.istore_n 3, 1) := by decide +kernel
theorem d_Moment_leastLiked_50 : decode b_Moment_leastLiked 50 = .ok (.iinc 4 1, 3) := by decide +kernel
theorem d_Moment_leastLiked_53 : decode b_Moment_leastLiked 53 = .ok (.goto (-48), 3) := by decide +kernel
theorem d_Moment_leastLiked_56 : decode b_Moment_leastLiked 56 = .ok (.iload_n 3, 1) := by decide +kernel
theorem d_Moment_leastLiked_57 : decode b_Moment_leastLiked 57 = .ok (.ireturn, 1) := by decide +kernel
theorem d_Moment_gives_0 : decode b_Moment_gives 0 = .ok (.aload_n 0, 1) := by decide +kernel
theorem d_Moment_gives_1 : decode b_Moment_gives 1 = .ok (.getfield 42, 3) := by decide +kernel
theorem d_Moment_gives_4 : decode b_Moment_gives 4 = .ok (.iload_n 3, 1) := by decide +kernel
theorem d_Moment_gives_5 : decode b_Moment_gives 5 = .ok (.invokestatic 45, 3) := by decide +kernel
theorem d_Moment_gives_8 : decode b_Moment_gives 8 = .ok (.ifCond .ne 5, 3) := by decide +kernel
theorem d_Moment_gives_11 : decode b_Moment_gives 11 = .ok (.iconst 0, 1) := by decide +kernel
theorem d_Moment_gives_12 : decode b_Moment_gives 12 = .ok (.ireturn, 1) := by decide +kernel
theorem d_Moment_gives_13 : decode b_Moment_gives 13 = .ok (.iload_n 1, 1) := by decide +kernel
theorem d_Moment_gives_14 : decode b_Moment_gives 14 = .ok (.tableswitch 72 0 3 #[30, 46, 72, 48], 30) := by decide +kernel
theorem d_Moment_gives_44 : decode b_Moment_gives 44 = .ok (.aload_n 0, 1) := by decide +kernel
theorem d_Moment_gives_45 : decode b_Moment_gives 45 = .ok (.iload_n 2, 1) := by decide +kernel
theorem d_Moment_gives_46 : decode b_Moment_gives 46 = .ok (.iload_n 3, 1) := by decide +kernel
theorem d_Moment_gives_47 : decode b_Moment_gives 47 = .ok (.invokevirtual 36, 3) := by decide +kernel
theorem d_Moment_gives_50 : decode b_Moment_gives 50 = .ok (.iconst 5, 1) := by decide +kernel
theorem d_Moment_gives_51 : decode b_Moment_gives 51 = .ok (.if_icmp .lt 7, 3) := by decide +kernel
theorem d_Moment_gives_54 : decode b_Moment_gives 54 = .ok (.iconst 1, 1) := by decide +kernel
theorem d_Moment_gives_55 : decode b_Moment_gives 55 = .ok (.goto 4, 3) := by decide +kernel
theorem d_Moment_gives_58 : decode b_Moment_gives 58 = .ok (.iconst 0, 1) := by decide +kernel
theorem d_Moment_gives_59 : decode b_Moment_gives 59 = .ok (.ireturn, 1) := by decide +kernel
theorem d_Moment_gives_60 : decode b_Moment_gives 60 = .ok (.iconst 1, 1) := by decide +kernel
theorem d_Moment_gives_61 : decode b_Moment_gives 61 = .ok (.ireturn, 1) := by decide +kernel
theorem d_Moment_gives_62 : decode b_Moment_gives 62 = .ok (.aload_n 0, 1) := by decide +kernel
theorem d_Moment_gives_63 : decode b_Moment_gives 63 = .ok (.iload_n 2, 1) := by decide +kernel
theorem d_Moment_gives_64 : decode b_Moment_gives 64 = .ok (.iload_n 3, 1) := by decide +kernel
theorem d_Moment_gives_65 : decode b_Moment_gives 65 = .ok (.invokevirtual 36, 3) := by decide +kernel
theorem d_Moment_gives_68 : decode b_Moment_gives 68 = .ok (.ifCond .le 16, 3) := by decide +kernel
theorem d_Moment_gives_71 : decode b_Moment_gives 71 = .ok (.aload_n 0, 1) := by decide +kernel
theorem d_Moment_gives_72 : decode b_Moment_gives 72 = .ok (.iload_n 2, 1) := by decide +kernel
theorem d_Moment_gives_73 : decode b_Moment_gives 73 = .ok (.invokevirtual 49, 3) := by decide +kernel
theorem d_Moment_gives_76 : decode b_Moment_gives 76 = .ok (.iload_n 3, 1) := by decide +kernel
theorem d_Moment_gives_77 : decode b_Moment_gives 77 = .ok (.if_icmp .ne 7, 3) := by decide +kernel
theorem d_Moment_gives_80 : decode b_Moment_gives 80 = .ok (.iconst 1, 1) := by decide +kernel
theorem d_Moment_gives_81 : decode b_Moment_gives 81 = .ok (.goto 4, 3) := by decide +kernel
theorem d_Moment_gives_84 : decode b_Moment_gives 84 = .ok (.iconst 0, 1) := by decide +kernel
theorem d_Moment_gives_85 : decode b_Moment_gives 85 = .ok (.ireturn, 1) := by decide +kernel
theorem d_Moment_gives_86 : decode b_Moment_gives 86 = .ok (.iconst 0, 1) := by decide +kernel
theorem d_Moment_gives_87 : decode b_Moment_gives 87 = .ok (.ireturn, 1) := by decide +kernel
theorem d_Moment_heartsOf_0 : decode b_Moment_heartsOf 0 = .ok (.iconst 0, 1) := by decide +kernel
theorem d_Moment_heartsOf_1 : decode b_Moment_heartsOf 1 = .ok (.istore_n 2, 1) := by decide +kernel
theorem d_Moment_heartsOf_2 : decode b_Moment_heartsOf 2 = .ok (.iconst 0, 1) := by decide +kernel
theorem d_Moment_heartsOf_3 : decode b_Moment_heartsOf 3 = .ok (.istore_n 3, 1) := by decide +kernel
theorem d_Moment_heartsOf_4 : decode b_Moment_heartsOf 4 = .ok (.iload_n 3, 1) := by decide +kernel
theorem d_Moment_heartsOf_5 : decode b_Moment_heartsOf 5 = .ok (.aload_n 0, 1) := by decide +kernel
theorem d_Moment_heartsOf_6 : decode b_Moment_heartsOf 6 = .ok (.getfield 9, 3) := by decide +kernel
theorem d_Moment_heartsOf_9 : decode b_Moment_heartsOf 9 = .ok (.getfield 39, 3) := by decide +kernel
theorem d_Moment_heartsOf_12 : decode b_Moment_heartsOf 12 = .ok (.if_icmp .ge 32, 3) := by decide +kernel
theorem d_Moment_heartsOf_15 : decode b_Moment_heartsOf 15 = .ok (.aload_n 0, 1) := by decide +kernel
theorem d_Moment_heartsOf_16 : decode b_Moment_heartsOf 16 = .ok (.aload_n 0, 1) := by decide +kernel
theorem d_Moment_heartsOf_17 : decode b_Moment_heartsOf 17 = .ok (.getfield 9, 3) := by decide +kernel
theorem d_Moment_heartsOf_20 : decode b_Moment_heartsOf 20 = .ok (.iload_n 1, 1) := by decide +kernel
theorem d_Moment_heartsOf_21 : decode b_Moment_heartsOf 21 = .ok (.invokevirtual 53, 3) := by decide +kernel
theorem d_Moment_heartsOf_24 : decode b_Moment_heartsOf 24 = .ok (.iload_n 1, 1) := by decide +kernel
theorem d_Moment_heartsOf_25 : decode b_Moment_heartsOf 25 = .ok (.iload_n 3, 1) := by decide +kernel
theorem d_Moment_heartsOf_26 : decode b_Moment_heartsOf 26 = .ok (.invokevirtual 56, 3) := by decide +kernel
theorem d_Moment_heartsOf_29 : decode b_Moment_heartsOf 29 = .ok (.ifCond .eq 9, 3) := by decide +kernel
theorem d_Moment_heartsOf_32 : decode b_Moment_heartsOf 32 = .ok (.iload_n 2, 1) := by decide +kernel
theorem d_Moment_heartsOf_33 : decode b_Moment_heartsOf 33 = .ok (.iconst 1, 1) := by decide +kernel
theorem d_Moment_heartsOf_34 : decode b_Moment_heartsOf 34 = .ok (.iload_n 3, 1) := by decide +kernel
theorem d_Moment_heartsOf_35 : decode b_Moment_heartsOf 35 = .ok (.ishl, 1) := by decide +kernel
theorem d_Moment_heartsOf_36 : decode b_Moment_heartsOf 36 = .ok (.ior, 1) := by decide +kernel
theorem d_Moment_heartsOf_37 : decode b_Moment_heartsOf 37 = .ok (.istore_n 2, 1) := by decide +kernel
theorem d_Moment_heartsOf_38 : decode b_Moment_heartsOf 38 = .ok (.iinc 3 1, 3) := by decide +kernel
theorem d_Moment_heartsOf_41 : decode b_Moment_heartsOf 41 = .ok (.goto (-37), 3) := by decide +kernel
theorem d_Moment_heartsOf_44 : decode b_Moment_heartsOf 44 = .ok (.iload_n 2, 1) := by decide +kernel
theorem d_Moment_heartsOf_45 : decode b_Moment_heartsOf 45 = .ok (.ireturn, 1) := by decide +kernel
theorem d_Moment_heartsOn_0 : decode b_Moment_heartsOn 0 = .ok (.iconst 0, 1) := by decide +kernel
theorem d_Moment_heartsOn_1 : decode b_Moment_heartsOn 1 = .ok (.istore_n 2, 1) := by decide +kernel
theorem d_Moment_heartsOn_2 : decode b_Moment_heartsOn 2 = .ok (.iconst 0, 1) := by decide +kernel
theorem d_Moment_heartsOn_3 : decode b_Moment_heartsOn 3 = .ok (.istore_n 3, 1) := by decide +kernel
theorem d_Moment_heartsOn_4 : decode b_Moment_heartsOn 4 = .ok (.iload_n 3, 1) := by decide +kernel
theorem d_Moment_heartsOn_5 : decode b_Moment_heartsOn 5 = .ok (.aload_n 0, 1) := by decide +kernel
theorem d_Moment_heartsOn_6 : decode b_Moment_heartsOn 6 = .ok (.getfield 9, 3) := by decide +kernel
theorem d_Moment_heartsOn_9 : decode b_Moment_heartsOn 9 = .ok (.getfield 33, 3) := by decide +kernel
theorem d_Moment_heartsOn_12 : decode b_Moment_heartsOn 12 = .ok (.if_icmp .ge 29, 3) := by decide +kernel
theorem d_Moment_heartsOn_15 : decode b_Moment_heartsOn 15 = .ok (.aload_n 0, 1) := by decide +kernel
theorem d_Moment_heartsOn_16 : decode b_Moment_heartsOn 16 = .ok (.aload_n 0, 1) := by decide +kernel
theorem d_Moment_heartsOn_17 : decode b_Moment_heartsOn 17 = .ok (.getfield 9, 3) := by decide +kernel
theorem d_Moment_heartsOn_20 : decode b_Moment_heartsOn 20 = .ok (.iload_n 3, 1) := by decide +kernel
theorem d_Moment_heartsOn_21 : decode b_Moment_heartsOn 21 = .ok (.invokevirtual 53, 3) := by decide +kernel
theorem d_Moment_heartsOn_24 : decode b_Moment_heartsOn 24 = .ok (.iload_n 3, 1) := by decide +kernel
theorem d_Moment_heartsOn_25 : decode b_Moment_heartsOn 25 = .ok (.iload_n 1, 1) := by decide +kernel
theorem d_Moment_heartsOn_26 : decode b_Moment_heartsOn 26 = .ok (.invokevirtual 56, 3) := by decide +kernel
theorem d_Moment_heartsOn_29 : decode b_Moment_heartsOn 29 = .ok (.ifCond .eq 6, 3) := by decide +kernel
theorem d_Moment_heartsOn_32 : decode b_Moment_heartsOn 32 = .ok (.iinc 2 1, 3) := by decide +kernel
theorem d_Moment_heartsOn_35 : decode b_Moment_heartsOn 35 = .ok (.iinc 3 1, 3) := by decide +kernel
theorem d_Moment_heartsOn_38 : decode b_Moment_heartsOn 38 = .ok (.goto (-34), 3) := by decide +kernel
theorem d_Moment_heartsOn_41 : decode b_Moment_heartsOn 41 = .ok (.iload_n 2, 1) := by decide +kernel
theorem d_Moment_heartsOn_42 : decode b_Moment_heartsOn 42 = .ok (.ireturn, 1) := by decide +kernel
theorem d_Moment_mostDish_0 : decode b_Moment_mostDish 0 = .ok (.iconst (-1), 1) := by decide +kernel
theorem d_Moment_mostDish_1 : decode b_Moment_mostDish 1 = .ok (.istore_n 2, 1) := by decide +kernel
theorem d_Moment_mostDish_2 : decode b_Moment_mostDish 2 = .ok (.iconst 0, 1) := by decide +kernel
theorem d_Moment_mostDish_3 : decode b_Moment_mostDish 3 = .ok (.istore_n 3, 1) := by decide +kernel
theorem d_Moment_mostDish_4 : decode b_Moment_mostDish 4 = .ok (.iload_n 3, 1) := by decide +kernel
theorem d_Moment_mostDish_5 : decode b_Moment_mostDish 5 = .ok (.aload_n 0, 1) := by decide +kernel
theorem d_Moment_mostDish_6 : decode b_Moment_mostDish 6 = .ok (.getfield 9, 3) := by decide +kernel
theorem d_Moment_mostDish_9 : decode b_Moment_mostDish 9 = .ok (.getfield 39, 3) := by decide +kernel
theorem d_Moment_mostDish_12 : decode b_Moment_mostDish 12 = .ok (.if_icmp .ge 45, 3) := by decide +kernel
theorem d_Moment_mostDish_15 : decode b_Moment_mostDish 15 = .ok (.aload_n 0, 1) := by decide +kernel
theorem d_Moment_mostDish_16 : decode b_Moment_mostDish 16 = .ok (.getfield 42, 3) := by decide +kernel
theorem d_Moment_mostDish_19 : decode b_Moment_mostDish 19 = .ok (.iload_n 3, 1) := by decide +kernel
theorem d_Moment_mostDish_20 : decode b_Moment_mostDish 20 = .ok (.invokestatic 45, 3) := by decide +kernel
theorem d_Moment_mostDish_23 : decode b_Moment_mostDish 23 = .ok (.ifCond .ne 6, 3) := by decide +kernel
theorem d_Moment_mostDish_26 : decode b_Moment_mostDish 26 = .ok (.goto 25, 3) := by decide +kernel
theorem d_Moment_mostDish_29 : decode b_Moment_mostDish 29 = .ok (.iload_n 2, 1) := by decide +kernel
theorem d_Moment_mostDish_30 : decode b_Moment_mostDish 30 = .ok (.iconst (-1), 1) := by decide +kernel
theorem d_Moment_mostDish_31 : decode b_Moment_mostDish 31 = .ok (.if_icmp .eq 18, 3) := by decide +kernel
theorem d_Moment_mostDish_34 : decode b_Moment_mostDish 34 = .ok (.aload_n 0, 1) := by decide +kernel
theorem d_Moment_mostDish_35 : decode b_Moment_mostDish 35 = .ok (.iload_n 3, 1) := by decide +kernel
theorem d_Moment_mostDish_36 : decode b_Moment_mostDish 36 = .ok (.iload_n 1, 1) := by decide +kernel
theorem d_Moment_mostDish_37 : decode b_Moment_mostDish 37 = .ok (.invokevirtual 60, 3) := by decide +kernel
theorem d_Moment_mostDish_40 : decode b_Moment_mostDish 40 = .ok (.aload_n 0, 1) := by decide +kernel
theorem d_Moment_mostDish_41 : decode b_Moment_mostDish 41 = .ok (.iload_n 2, 1) := by decide +kernel
theorem d_Moment_mostDish_42 : decode b_Moment_mostDish 42 = .ok (.iload_n 1, 1) := by decide +kernel
theorem d_Moment_mostDish_43 : decode b_Moment_mostDish 43 = .ok (.invokevirtual 60, 3) := by decide +kernel
theorem d_Moment_mostDish_46 : decode b_Moment_mostDish 46 = .ok (.if_icmp .le 5, 3) := by decide +kernel
theorem d_Moment_mostDish_49 : decode b_Moment_mostDish 49 = .ok (.iload_n 3, 1) := by decide +kernel
theorem d_Moment_mostDish_50 : decode b_Moment_mostDish 50 = .ok (.istore_n 2, 1) := by decide +kernel
theorem d_Moment_mostDish_51 : decode b_Moment_mostDish 51 = .ok (.iinc 3 1, 3) := by decide +kernel
theorem d_Moment_mostDish_54 : decode b_Moment_mostDish 54 = .ok (.goto (-50), 3) := by decide +kernel
theorem d_Moment_mostDish_57 : decode b_Moment_mostDish 57 = .ok (.iload_n 2, 1) := by decide +kernel
theorem d_Moment_mostDish_58 : decode b_Moment_mostDish 58 = .ok (.ireturn, 1) := by decide +kernel
theorem d_Moment_fairDish_0 : decode b_Moment_fairDish 0 = .ok (.iconst (-1), 1) := by decide +kernel
theorem d_Moment_fairDish_1 : decode b_Moment_fairDish 1 = .ok (.istore_n 1, 1) := by decide +kernel
theorem d_Moment_fairDish_2 : decode b_Moment_fairDish 2 = .ok (.iconst (-1), 1) := by decide +kernel
theorem d_Moment_fairDish_3 : decode b_Moment_fairDish 3 = .ok (.istore_n 2, 1) := by decide +kernel
theorem d_Moment_fairDish_4 : decode b_Moment_fairDish 4 = .ok (.iconst 0, 1) := by decide +kernel
theorem d_Moment_fairDish_5 : decode b_Moment_fairDish 5 = .ok (.istore_n 3, 1) := by decide +kernel
theorem d_Moment_fairDish_6 : decode b_Moment_fairDish 6 = .ok (.iload_n 3, 1) := by decide +kernel
theorem d_Moment_fairDish_7 : decode b_Moment_fairDish 7 = .ok (.aload_n 0, 1) := by decide +kernel
theorem d_Moment_fairDish_8 : decode b_Moment_fairDish 8 = .ok (.getfield 9, 3) := by decide +kernel
theorem d_Moment_fairDish_11 : decode b_Moment_fairDish 11 = .ok (.getfield 39, 3) := by decide +kernel
theorem d_Moment_fairDish_14 : decode b_Moment_fairDish 14 = .ok (.if_icmp .ge 40, 3) := by decide +kernel
theorem d_Moment_fairDish_17 : decode b_Moment_fairDish 17 = .ok (.aload_n 0, 1) := by decide +kernel
theorem d_Moment_fairDish_18 : decode b_Moment_fairDish 18 = .ok (.getfield 42, 3) := by decide +kernel
theorem d_Moment_fairDish_21 : decode b_Moment_fairDish 21 = .ok (.iload_n 3, 1) := by decide +kernel
theorem d_Moment_fairDish_22 : decode b_Moment_fairDish 22 = .ok (.invokestatic 45, 3) := by decide +kernel
theorem d_Moment_fairDish_25 : decode b_Moment_fairDish 25 = .ok (.ifCond .eq 23, 3) := by decide +kernel
theorem d_Moment_fairDish_28 : decode b_Moment_fairDish 28 = .ok (.aload_n 0, 1) := by decide +kernel
theorem d_Moment_fairDish_29 : decode b_Moment_fairDish 29 = .ok (.iload_n 3, 1) := by decide +kernel
theorem d_Moment_fairDish_30 : decode b_Moment_fairDish 30 = .ok (.invokevirtual 63, 3) := by decide +kernel
theorem d_Moment_fairDish_33 : decode b_Moment_fairDish 33 = .ok (.iload_n 2, 1) := by decide +kernel
theorem d_Moment_fairDish_34 : decode b_Moment_fairDish 34 = .ok (.if_icmp .gt 6, 3) := by decide +kernel
theorem d_Moment_fairDish_37 : decode b_Moment_fairDish 37 = .ok (.goto 11, 3) := by decide +kernel
theorem d_Moment_fairDish_40 : decode b_Moment_fairDish 40 = .ok (.iload_n 3, 1) := by decide +kernel
theorem d_Moment_fairDish_41 : decode b_Moment_fairDish 41 = .ok (.istore_n 1, 1) := by decide +kernel
theorem d_Moment_fairDish_42 : decode b_Moment_fairDish 42 = .ok (.aload_n 0, 1) := by decide +kernel
theorem d_Moment_fairDish_43 : decode b_Moment_fairDish 43 = .ok (.iload_n 3, 1) := by decide +kernel
theorem d_Moment_fairDish_44 : decode b_Moment_fairDish 44 = .ok (.invokevirtual 63, 3) := by decide +kernel
theorem d_Moment_fairDish_47 : decode b_Moment_fairDish 47 = .ok (.istore_n 2, 1) := by decide +kernel
theorem d_Moment_fairDish_48 : decode b_Moment_fairDish 48 = .ok (.iinc 3 1, 3) := by decide +kernel
theorem d_Moment_fairDish_51 : decode b_Moment_fairDish 51 = .ok (.goto (-45), 3) := by decide +kernel
theorem d_Moment_fairDish_54 : decode b_Moment_fairDish 54 = .ok (.iload_n 1, 1) := by decide +kernel
theorem d_Moment_fairDish_55 : decode b_Moment_fairDish 55 = .ok (.ireturn, 1) := by decide +kernel
theorem d_Moment_fairRank_0 : decode b_Moment_fairRank 0 = .ok (.bipush 100, 2) := by decide +kernel
theorem d_Moment_fairRank_2 : decode b_Moment_fairRank 2 = .ok (.aload_n 0, 1) := by decide +kernel
theorem d_Moment_fairRank_3 : decode b_Moment_fairRank 3 = .ok (.iload_n 1, 1) := by decide +kernel
theorem d_Moment_fairRank_4 : decode b_Moment_fairRank 4 = .ok (.invokevirtual 66, 3) := by decide +kernel
theorem d_Moment_fairRank_7 : decode b_Moment_fairRank 7 = .ok (.imul, 1) := by decide +kernel
theorem d_Moment_fairRank_8 : decode b_Moment_fairRank 8 = .ok (.aload_n 0, 1) := by decide +kernel
theorem d_Moment_fairRank_9 : decode b_Moment_fairRank 9 = .ok (.iload_n 1, 1) := by decide +kernel
theorem d_Moment_fairRank_10 : decode b_Moment_fairRank 10 = .ok (.iconst (-1), 1) := by decide +kernel
theorem d_Moment_fairRank_11 : decode b_Moment_fairRank 11 = .ok (.invokevirtual 60, 3) := by decide +kernel
theorem d_Moment_fairRank_14 : decode b_Moment_fairRank 14 = .ok (.iadd, 1) := by decide +kernel
theorem d_Moment_fairRank_15 : decode b_Moment_fairRank 15 = .ok (.ireturn, 1) := by decide +kernel
theorem d_Moment_lead_0 : decode b_Moment_lead 0 = .ok (.iconst 0, 1) := by decide +kernel
theorem d_Moment_lead_1 : decode b_Moment_lead 1 = .ok (.istore_n 3, 1) := by decide +kernel
theorem d_Moment_lead_2 : decode b_Moment_lead 2 = .ok (.iconst 0, 1) := by decide +kernel
theorem d_Moment_lead_3 : decode b_Moment_lead 3 = .ok (.istore 4, 2) := by decide +kernel
theorem d_Moment_lead_5 : decode b_Moment_lead 5 = .ok (.iload 4, 2) := by decide +kernel
theorem d_Moment_lead_7 : decode b_Moment_lead 7 = .ok (.aload_n 0, 1) := by decide +kernel
theorem d_Moment_lead_8 : decode b_Moment_lead 8 = .ok (.getfield 9, 3) := by decide +kernel
theorem d_Moment_lead_11 : decode b_Moment_lead 11 = .ok (.getfield 33, 3) := by decide +kernel
theorem d_Moment_lead_14 : decode b_Moment_lead 14 = .ok (.if_icmp .ge 29, 3) := by decide +kernel
theorem d_Moment_lead_17 : decode b_Moment_lead 17 = .ok (.iload_n 3, 1) := by decide +kernel
theorem d_Moment_lead_18 : decode b_Moment_lead 18 = .ok (.aload_n 0, 1) := by decide +kernel
theorem d_Moment_lead_19 : decode b_Moment_lead 19 = .ok (.iload 4, 2) := by decide +kernel
theorem d_Moment_lead_21 : decode b_Moment_lead 21 = .ok (.iload_n 1, 1) := by decide +kernel
theorem d_Moment_lead_22 : decode b_Moment_lead 22 = .ok (.invokevirtual 36, 3) := by decide +kernel
theorem d_Moment_lead_25 : decode b_Moment_lead 25 = .ok (.aload_n 0, 1) := by decide +kernel
theorem d_Moment_lead_26 : decode b_Moment_lead 26 = .ok (.iload 4, 2) := by decide +kernel
theorem d_Moment_lead_28 : decode b_Moment_lead 28 = .ok (.iload_n 2, 1) := by decide +kernel
theorem d_Moment_lead_29 : decode b_Moment_lead 29 = .ok (.invokevirtual 36, 3) := by decide +kernel
theorem d_Moment_lead_32 : decode b_Moment_lead 32 = .ok (.invokestatic 69, 3) := by decide +kernel
theorem d_Moment_lead_35 : decode b_Moment_lead 35 = .ok (.iadd, 1) := by decide +kernel
theorem d_Moment_lead_36 : decode b_Moment_lead 36 = .ok (.istore_n 3, 1) := by decide +kernel
theorem d_Moment_lead_37 : decode b_Moment_lead 37 = .ok (.iinc 4 1, 3) := by decide +kernel
theorem d_Moment_lead_40 : decode b_Moment_lead 40 = .ok (.goto (-35), 3) := by decide +kernel
theorem d_Moment_lead_43 : decode b_Moment_lead 43 = .ok (.iload_n 3, 1) := by decide +kernel
theorem d_Moment_lead_44 : decode b_Moment_lead 44 = .ok (.ireturn, 1) := by decide +kernel
theorem d_Moment_winner_0 : decode b_Moment_winner 0 = .ok (.iconst 0, 1) := by decide +kernel
theorem d_Moment_winner_1 : decode b_Moment_winner 1 = .ok (.istore_n 1, 1) := by decide +kernel
theorem d_Moment_winner_2 : decode b_Moment_winner 2 = .ok (.iload_n 1, 1) := by decide +kernel
theorem d_Moment_winner_3 : decode b_Moment_winner 3 = .ok (.aload_n 0, 1) := by decide +kernel
theorem d_Moment_winner_4 : decode b_Moment_winner 4 = .ok (.getfield 9, 3) := by decide +kernel
theorem d_Moment_winner_7 : decode b_Moment_winner 7 = .ok (.getfield 39, 3) := by decide +kernel
theorem d_Moment_winner_10 : decode b_Moment_winner 10 = .ok (.if_icmp .ge 30, 3) := by decide +kernel
theorem d_Moment_winner_13 : decode b_Moment_winner 13 = .ok (.aload_n 0, 1) := by decide +kernel
theorem d_Moment_winner_14 : decode b_Moment_winner 14 = .ok (.getfield 42, 3) := by decide +kernel
theorem d_Moment_winner_17 : decode b_Moment_winner 17 = .ok (.iload_n 1, 1) := by decide +kernel
theorem d_Moment_winner_18 : decode b_Moment_winner 18 = .ok (.invokestatic 45, 3) := by decide +kernel
theorem d_Moment_winner_21 : decode b_Moment_winner 21 = .ok (.ifCond .eq 13, 3) := by decide +kernel
theorem d_Moment_winner_24 : decode b_Moment_winner 24 = .ok (.aload_n 0, 1) := by decide +kernel
theorem d_Moment_winner_25 : decode b_Moment_winner 25 = .ok (.iload_n 1, 1) := by decide +kernel
theorem d_Moment_winner_26 : decode b_Moment_winner 26 = .ok (.invokevirtual 74, 3) := by decide +kernel
theorem d_Moment_winner_29 : decode b_Moment_winner 29 = .ok (.ifCond .eq 5, 3) := by decide +kernel
theorem d_Moment_winner_32 : decode b_Moment_winner 32 = .ok (.iload_n 1, 1) := by decide +kernel
theorem d_Moment_winner_33 : decode b_Moment_winner 33 = .ok (.ireturn, 1) := by decide +kernel
theorem d_Moment_winner_34 : decode b_Moment_winner 34 = .ok (.iinc 1 1, 3) := by decide +kernel
theorem d_Moment_winner_37 : decode b_Moment_winner 37 = .ok (.goto (-35), 3) := by decide +kernel
theorem d_Moment_winner_40 : decode b_Moment_winner 40 = .ok (.bipush (-4), 2) := by decide +kernel
theorem d_Moment_winner_42 : decode b_Moment_winner 42 = .ok (.ireturn, 1) := by decide +kernel
theorem d_Moment_winsAgainstAll_0 : decode b_Moment_winsAgainstAll 0 = .ok (.iconst 0, 1) := by decide +kernel
theorem d_Moment_winsAgainstAll_1 : decode b_Moment_winsAgainstAll 1 = .ok (.istore_n 2, 1) := by decide +kernel
theorem d_Moment_winsAgainstAll_2 : decode b_Moment_winsAgainstAll 2 = .ok (.iload_n 2, 1) := by decide +kernel
theorem d_Moment_winsAgainstAll_3 : decode b_Moment_winsAgainstAll 3 = .ok (.aload_n 0, 1) := by decide +kernel
theorem d_Moment_winsAgainstAll_4 : decode b_Moment_winsAgainstAll 4 = .ok (.getfield 9, 3) := by decide +kernel
theorem d_Moment_winsAgainstAll_7 : decode b_Moment_winsAgainstAll 7 = .ok (.getfield 39, 3) := by decide +kernel
theorem d_Moment_winsAgainstAll_10 : decode b_Moment_winsAgainstAll 10 = .ok (.if_icmp .ge 36, 3) := by decide +kernel
theorem d_Moment_winsAgainstAll_13 : decode b_Moment_winsAgainstAll 13 = .ok (.iload_n 2, 1) := by decide +kernel
theorem d_Moment_winsAgainstAll_14 : decode b_Moment_winsAgainstAll 14 = .ok (.iload_n 1, 1) := by decide +kernel
theorem d_Moment_winsAgainstAll_15 : decode b_Moment_winsAgainstAll 15 = .ok (.if_icmp .eq 25, 3) := by decide +kernel
theorem d_Moment_winsAgainstAll_18 : decode b_Moment_winsAgainstAll 18 = .ok (.aload_n 0, 1) := by decide +kernel
theorem d_Moment_winsAgainstAll_19 : decode b_Moment_winsAgainstAll 19 = .ok (.getfield 42, 3) := by decide +kernel
theorem d_Moment_winsAgainstAll_22 : decode b_Moment_winsAgainstAll 22 = .ok (.iload_n 2, 1) := by decide +kernel
theorem d_Moment_winsAgainstAll_23 : decode b_Moment_winsAgainstAll 23 = .ok (.invokestatic 45, 3) := by decide +kernel
theorem d_Moment_winsAgainstAll_26 : decode b_Moment_winsAgainstAll 26 = .ok (.ifCond .eq 14, 3) := by decide +kernel
theorem d_Moment_winsAgainstAll_29 : decode b_Moment_winsAgainstAll 29 = .ok (.aload_n 0, 1) := by decide +kernel
theorem d_Moment_winsAgainstAll_30 : decode b_Moment_winsAgainstAll 30 = .ok (.iload_n 1, 1) := by decide +kernel
theorem d_Moment_winsAgainstAll_31 : decode b_Moment_winsAgainstAll 31 = .ok (.iload_n 2, 1) := by decide +kernel
theorem d_Moment_winsAgainstAll_32 : decode b_Moment_winsAgainstAll 32 = .ok (.invokevirtual 78, 3) := by decide +kernel
theorem d_Moment_winsAgainstAll_35 : decode b_Moment_winsAgainstAll 35 = .ok (.ifCond .gt 5, 3) := by decide +kernel
theorem d_Moment_winsAgainstAll_38 : decode b_Moment_winsAgainstAll 38 = .ok (.iconst 0, 1) := by decide +kernel
theorem d_Moment_winsAgainstAll_39 : decode b_Moment_winsAgainstAll 39 = .ok (.ireturn, 1) := by decide +kernel
theorem d_Moment_winsAgainstAll_40 : decode b_Moment_winsAgainstAll 40 = .ok (.iinc 2 1, 3) := by decide +kernel
theorem d_Moment_winsAgainstAll_43 : decode b_Moment_winsAgainstAll 43 = .ok (.goto (-41), 3) := by decide +kernel
theorem d_Moment_winsAgainstAll_46 : decode b_Moment_winsAgainstAll 46 = .ok (.iconst 1, 1) := by decide +kernel
theorem d_Moment_winsAgainstAll_47 : decode b_Moment_winsAgainstAll 47 = .ok (.ireturn, 1) := by decide +kernel
theorem d_Moment_nobodysWorst_0 : decode b_Moment_nobodysWorst 0 = .ok (.aload_n 0, 1) := by decide +kernel
theorem d_Moment_nobodysWorst_1 : decode b_Moment_nobodysWorst 1 = .ok (.getfield 42, 3) := by decide +kernel
theorem d_Moment_nobodysWorst_4 : decode b_Moment_nobodysWorst 4 = .ok (.invokestatic 81, 3) := by decide +kernel
theorem d_Moment_nobodysWorst_7 : decode b_Moment_nobodysWorst 7 = .ok (.iconst 2, 1) := by decide +kernel
theorem d_Moment_nobodysWorst_8 : decode b_Moment_nobodysWorst 8 = .ok (.if_icmp .ge 8, 3) := by decide +kernel
theorem d_Moment_nobodysWorst_11 : decode b_Moment_nobodysWorst 11 = .ok (.aload_n 0, 1) := by decide +kernel
theorem d_Moment_nobodysWorst_12 : decode b_Moment_nobodysWorst 12 = .ok (.getfield 42, 3) := by decide +kernel
theorem d_Moment_nobodysWorst_15 : decode b_Moment_nobodysWorst 15 = .ok (.ireturn, 1) := by decide +kernel
theorem d_Moment_nobodysWorst_16 : decode b_Moment_nobodysWorst 16 = .ok (.aload_n 0, 1) := by decide +kernel
theorem d_Moment_nobodysWorst_17 : decode b_Moment_nobodysWorst 17 = .ok (.getfield 42, 3) := by decide +kernel
theorem d_Moment_nobodysWorst_20 : decode b_Moment_nobodysWorst 20 = .ok (.istore_n 1, 1) := by decide +kernel
theorem d_Moment_nobodysWorst_21 : decode b_Moment_nobodysWorst 21 = .ok (.iconst 0, 1) := by decide +kernel
theorem d_Moment_nobodysWorst_22 : decode b_Moment_nobodysWorst 22 = .ok (.istore_n 2, 1) := by decide +kernel
theorem d_Moment_nobodysWorst_23 : decode b_Moment_nobodysWorst 23 = .ok (.iload_n 2, 1) := by decide +kernel
theorem d_Moment_nobodysWorst_24 : decode b_Moment_nobodysWorst 24 = .ok (.aload_n 0, 1) := by decide +kernel
theorem d_Moment_nobodysWorst_25 : decode b_Moment_nobodysWorst 25 = .ok (.getfield 9, 3) := by decide +kernel
theorem d_Moment_nobodysWorst_28 : decode b_Moment_nobodysWorst 28 = .ok (.getfield 33, 3) := by decide +kernel
theorem d_Moment_nobodysWorst_31 : decode b_Moment_nobodysWorst 31 = .ok (.if_icmp .ge 19, 3) := by decide +kernel
theorem d_Moment_nobodysWorst_34 : decode b_Moment_nobodysWorst 34 = .ok (.iload_n 1, 1) := by decide +kernel
theorem d_Moment_nobodysWorst_35 : decode b_Moment_nobodysWorst 35 = .ok (.aload_n 0, 1) := by decide +kernel
theorem d_Moment_nobodysWorst_36 : decode b_Moment_nobodysWorst 36 = .ok (.iload_n 2, 1) := by decide +kernel
theorem d_Moment_nobodysWorst_37 : decode b_Moment_nobodysWorst 37 = .ok (.invokevirtual 84, 3) := by decide +kernel
theorem d_Moment_nobodysWorst_40 : decode b_Moment_nobodysWorst 40 = .ok (.iconst (-1), 1) := by decide +kernel
theorem d_Moment_nobodysWorst_41 : decode b_Moment_nobodysWorst 41 = .ok (.ixor, 1) := by decide +kernel
theorem d_Moment_nobodysWorst_42 : decode b_Moment_nobodysWorst 42 = .ok (.iand, 1) := by decide +kernel
theorem d_Moment_nobodysWorst_43 : decode b_Moment_nobodysWorst 43 = .ok (.istore_n 1, 1) := by decide +kernel
theorem d_Moment_nobodysWorst_44 : decode b_Moment_nobodysWorst 44 = .ok (.iinc 2 1, 3) := by decide +kernel
theorem d_Moment_nobodysWorst_47 : decode b_Moment_nobodysWorst 47 = .ok (.goto (-24), 3) := by decide +kernel
theorem d_Moment_nobodysWorst_50 : decode b_Moment_nobodysWorst 50 = .ok (.iload_n 1, 1) := by decide +kernel
theorem d_Moment_nobodysWorst_51 : decode b_Moment_nobodysWorst 51 = .ok (.ireturn, 1) := by decide +kernel
theorem d_Moment_worstAlone_0 : decode b_Moment_worstAlone 0 = .ok (.aload_n 0, 1) := by decide +kernel
theorem d_Moment_worstAlone_1 : decode b_Moment_worstAlone 1 = .ok (.iload_n 1, 1) := by decide +kernel
theorem d_Moment_worstAlone_2 : decode b_Moment_worstAlone 2 = .ok (.aload_n 0, 1) := by decide +kernel
theorem d_Moment_worstAlone_3 : decode b_Moment_worstAlone 3 = .ok (.getfield 42, 3) := by decide +kernel
theorem d_Moment_worstAlone_6 : decode b_Moment_worstAlone 6 = .ok (.invokevirtual 87, 3) := by decide +kernel
theorem d_Moment_worstAlone_9 : decode b_Moment_worstAlone 9 = .ok (.istore_n 2, 1) := by decide +kernel
theorem d_Moment_worstAlone_10 : decode b_Moment_worstAlone 10 = .ok (.aload_n 0, 1) := by decide +kernel
theorem d_Moment_worstAlone_11 : decode b_Moment_worstAlone 11 = .ok (.iload_n 1, 1) := by decide +kernel
theorem d_Moment_worstAlone_12 : decode b_Moment_worstAlone 12 = .ok (.aload_n 0, 1) := by decide +kernel
theorem d_Moment_worstAlone_13 : decode b_Moment_worstAlone 13 = .ok (.getfield 42, 3) := by decide +kernel
theorem d_Moment_worstAlone_16 : decode b_Moment_worstAlone 16 = .ok (.iconst 1, 1) := by decide +kernel
theorem d_Moment_worstAlone_17 : decode b_Moment_worstAlone 17 = .ok (.iload_n 2, 1) := by decide +kernel
theorem d_Moment_worstAlone_18 : decode b_Moment_worstAlone 18 = .ok (.ishl, 1) := by decide +kernel
theorem d_Moment_worstAlone_19 : decode b_Moment_worstAlone 19 = .ok (.iconst (-1), 1) := by decide +kernel
theorem d_Moment_worstAlone_20 : decode b_Moment_worstAlone 20 = .ok (.ixor, 1) := by decide +kernel
theorem d_Moment_worstAlone_21 : decode b_Moment_worstAlone 21 = .ok (.iand, 1) := by decide +kernel
theorem d_Moment_worstAlone_22 : decode b_Moment_worstAlone 22 = .ok (.invokevirtual 87, 3) := by decide +kernel
theorem d_Moment_worstAlone_25 : decode b_Moment_worstAlone 25 = .ok (.istore_n 3, 1) := by decide +kernel
theorem d_Moment_worstAlone_26 : decode b_Moment_worstAlone 26 = .ok (.aload_n 0, 1) := by decide +kernel
theorem d_Moment_worstAlone_27 : decode b_Moment_worstAlone 27 = .ok (.iload_n 1, 1) := by decide +kernel
theorem d_Moment_worstAlone_28 : decode b_Moment_worstAlone 28 = .ok (.iload_n 2, 1) := by decide +kernel
theorem d_Moment_worstAlone_29 : decode b_Moment_worstAlone 29 = .ok (.invokevirtual 36, 3) := by decide +kernel
theorem d_Moment_worstAlone_32 : decode b_Moment_worstAlone 32 = .ok (.aload_n 0, 1) := by decide +kernel
theorem d_Moment_worstAlone_33 : decode b_Moment_worstAlone 33 = .ok (.iload_n 1, 1) := by decide +kernel
theorem d_Moment_worstAlone_34 : decode b_Moment_worstAlone 34 = .ok (.iload_n 3, 1) := by decide +kernel
theorem d_Moment_worstAlone_35 : decode b_Moment_worstAlone 35 = .ok (.invokevirtual 36, 3) := by decide +kernel
theorem d_Moment_worstAlone_38 : decode b_Moment_worstAlone 38 = .ok (.if_icmp .ge 9, 3) := by decide +kernel
theorem d_Moment_worstAlone_41 : decode b_Moment_worstAlone 41 = .ok (.iconst 1, 1) := by decide +kernel
theorem d_Moment_worstAlone_42 : decode b_Moment_worstAlone 42 = .ok (.iload_n 2, 1) := by decide +kernel
theorem d_Moment_worstAlone_43 : decode b_Moment_worstAlone 43 = .ok (.ishl, 1) := by decide +kernel
theorem d_Moment_worstAlone_44 : decode b_Moment_worstAlone 44 = .ok (.goto 4, 3) := by decide +kernel
theorem d_Moment_worstAlone_47 : decode b_Moment_worstAlone 47 = .ok (.iconst 0, 1) := by decide +kernel
theorem d_Moment_worstAlone_48 : decode b_Moment_worstAlone 48 = .ok (.ireturn, 1) := by decide +kernel
theorem d_Moment_lastStanding_0 : decode b_Moment_lastStanding 0 = .ok (.aload_n 0, 1) := by decide +kernel
theorem d_Moment_lastStanding_1 : decode b_Moment_lastStanding 1 = .ok (.getfield 42, 3) := by decide +kernel
theorem d_Moment_lastStanding_4 : decode b_Moment_lastStanding 4 = .ok (.istore_n 2, 1) := by decide +kernel
theorem d_Moment_lastStanding_5 : decode b_Moment_lastStanding 5 = .ok (.iconst 0, 1) := by decide +kernel
theorem d_Moment_lastStanding_6 : decode b_Moment_lastStanding 6 = .ok (.istore_n 3, 1) := by decide +kernel
theorem d_Moment_lastStanding_7 : decode b_Moment_lastStanding 7 = .ok (.iload_n 3, 1) := by decide +kernel
theorem d_Moment_lastStanding_8 : decode b_Moment_lastStanding 8 = .ok (.bipush 6, 2) := by decide +kernel
theorem d_Moment_lastStanding_10 : decode b_Moment_lastStanding 10 = .ok (.if_icmp .ge 58, 3) := by decide +kernel
theorem d_Moment_lastStanding_13 : decode b_Moment_lastStanding 13 = .ok (.iload_n 2, 1) := by decide +kernel
theorem d_Moment_lastStanding_14 : decode b_Moment_lastStanding 14 = .ok (.invokestatic 81, 3) := by decide +kernel
theorem d_Moment_lastStanding_17 : decode b_Moment_lastStanding 17 = .ok (.iconst 1, 1) := by decide +kernel
theorem d_Moment_lastStanding_18 : decode b_Moment_lastStanding 18 = .ok (.if_icmp .le 50, 3) := by decide +kernel
theorem d_Moment_lastStanding_21 : decode b_Moment_lastStanding 21 = .ok (.aload_n 0, 1) := by decide +kernel
theorem d_Moment_lastStanding_22 : decode b_Moment_lastStanding 22 = .ok (.getfield 9, 3) := by decide +kernel
theorem d_Moment_lastStanding_25 : decode b_Moment_lastStanding 25 = .ok (.getfield 33, 3) := by decide +kernel
theorem d_Moment_lastStanding_28 : decode b_Moment_lastStanding 28 = .ok (.ifCond .le 17, 3) := by decide +kernel
theorem d_Moment_lastStanding_31 : decode b_Moment_lastStanding 31 = .ok (.iload_n 1, 1) := by decide +kernel
theorem d_Moment_lastStanding_32 : decode b_Moment_lastStanding 32 = .ok (.iload_n 3, 1) := by decide +kernel
theorem d_Moment_lastStanding_33 : decode b_Moment_lastStanding 33 = .ok (.iadd, 1) := by decide +kernel
theorem d_Moment_lastStanding_34 : decode b_Moment_lastStanding 34 = .ok (.aload_n 0, 1) := by decide +kernel
theorem d_Moment_lastStanding_35 : decode b_Moment_lastStanding 35 = .ok (.getfield 9, 3) := by decide +kernel
theorem d_Moment_lastStanding_38 : decode b_Moment_lastStanding 38 = .ok (.getfield 33, 3) := by decide +kernel
theorem d_Moment_lastStanding_41 : decode b_Moment_lastStanding 41 = .ok (.irem, 1) := by decide +kernel
theorem d_Moment_lastStanding_42 : decode b_Moment_lastStanding 42 = .ok (.goto 4, 3) := by decide +kernel
theorem d_Moment_lastStanding_45 : decode b_Moment_lastStanding 45 = .ok (.iconst 0, 1) := by decide +kernel
theorem d_Moment_lastStanding_46 : decode b_Moment_lastStanding 46 = .ok (.istore 4, 2) := by decide +kernel
theorem d_Moment_lastStanding_48 : decode b_Moment_lastStanding 48 = .ok (.iload_n 2, 1) := by decide +kernel
theorem d_Moment_lastStanding_49 : decode b_Moment_lastStanding 49 = .ok (.iconst 1, 1) := by decide +kernel
theorem d_Moment_lastStanding_50 : decode b_Moment_lastStanding 50 = .ok (.aload_n 0, 1) := by decide +kernel
theorem d_Moment_lastStanding_51 : decode b_Moment_lastStanding 51 = .ok (.iload 4, 2) := by decide +kernel
theorem d_Moment_lastStanding_53 : decode b_Moment_lastStanding 53 = .ok (.iload_n 2, 1) := by decide +kernel
theorem d_Moment_lastStanding_54 : decode b_Moment_lastStanding 54 = .ok (.invokevirtual 87, 3) := by decide +kernel
theorem d_Moment_lastStanding_57 : decode b_Moment_lastStanding 57 = .ok (.ishl, 1) := by decide +kernel
theorem d_Moment_lastStanding_58 : decode b_Moment_lastStanding 58 = .ok (.iconst (-1), 1) := by decide +kernel
theorem d_Moment_lastStanding_59 : decode b_Moment_lastStanding 59 = .ok (.ixor, 1) := by decide +kernel
theorem d_Moment_lastStanding_60 : decode b_Moment_lastStanding 60 = .ok (.iand, 1) := by decide +kernel
theorem d_Moment_lastStanding_61 : decode b_Moment_lastStanding 61 = .ok (.istore_n 2, 1) := by decide +kernel
theorem d_Moment_lastStanding_62 : decode b_Moment_lastStanding 62 = .ok (.iinc 3 1, 3) := by decide +kernel
theorem d_Moment_lastStanding_65 : decode b_Moment_lastStanding 65 = .ok (.goto (-58), 3) := by decide +kernel
theorem d_Moment_lastStanding_68 : decode b_Moment_lastStanding 68 = .ok (.aload_n 0, 1) := by decide +kernel
theorem d_Moment_lastStanding_69 : decode b_Moment_lastStanding 69 = .ok (.iload_n 1, 1) := by decide +kernel
theorem d_Moment_lastStanding_70 : decode b_Moment_lastStanding 70 = .ok (.iload_n 2, 1) := by decide +kernel
theorem d_Moment_lastStanding_71 : decode b_Moment_lastStanding 71 = .ok (.invokevirtual 87, 3) := by decide +kernel
theorem d_Moment_lastStanding_74 : decode b_Moment_lastStanding 74 = .ok (.ireturn, 1) := by decide +kernel
theorem d_Moment_bestPair_0 : decode b_Moment_bestPair 0 = .ok (.iconst (-1), 1) := by decide +kernel
theorem d_Moment_bestPair_1 : decode b_Moment_bestPair 1 = .ok (.istore_n 1, 1) := by decide +kernel
theorem d_Moment_bestPair_2 : decode b_Moment_bestPair 2 = .ok (.iconst (-1), 1) := by decide +kernel
theorem d_Moment_bestPair_3 : decode b_Moment_bestPair 3 = .ok (.istore_n 2, 1) := by decide +kernel
theorem d_Moment_bestPair_4 : decode b_Moment_bestPair 4 = .ok (.iconst 0, 1) := by decide +kernel
theorem d_Moment_bestPair_5 : decode b_Moment_bestPair 5 = .ok (.istore_n 3, 1) := by decide +kernel
theorem d_Moment_bestPair_6 : decode b_Moment_bestPair 6 = .ok (.iload_n 3, 1) := by decide +kernel
theorem d_Moment_bestPair_7 : decode b_Moment_bestPair 7 = .ok (.aload_n 0, 1) := by decide +kernel
theorem d_Moment_bestPair_8 : decode b_Moment_bestPair 8 = .ok (.getfield 9, 3) := by decide +kernel
theorem d_Moment_bestPair_11 : decode b_Moment_bestPair 11 = .ok (.getfield 39, 3) := by decide +kernel
theorem d_Moment_bestPair_14 : decode b_Moment_bestPair 14 = .ok (.if_icmp .ge 85, 3) := by decide +kernel
theorem d_Moment_bestPair_17 : decode b_Moment_bestPair 17 = .ok (.iload_n 3, 1) := by decide +kernel
theorem d_Moment_bestPair_18 : decode b_Moment_bestPair 18 = .ok (.iconst 1, 1) := by decide +kernel
theorem d_Moment_bestPair_19 : decode b_Moment_bestPair 19 = .ok (.iadd, 1) := by decide +kernel
theorem d_Moment_bestPair_20 : decode b_Moment_bestPair 20 = .ok (.istore 4, 2) := by decide +kernel
theorem d_Moment_bestPair_22 : decode b_Moment_bestPair 22 = .ok (.iload 4, 2) := by decide +kernel
theorem d_Moment_bestPair_24 : decode b_Moment_bestPair 24 = .ok (.aload_n 0, 1) := by decide +kernel
theorem d_Moment_bestPair_25 : decode b_Moment_bestPair 25 = .ok (.getfield 9, 3) := by decide +kernel
theorem d_Moment_bestPair_28 : decode b_Moment_bestPair 28 = .ok (.getfield 39, 3) := by decide +kernel
theorem d_Moment_bestPair_31 : decode b_Moment_bestPair 31 = .ok (.if_icmp .ge 62, 3) := by decide +kernel
theorem d_Moment_bestPair_34 : decode b_Moment_bestPair 34 = .ok (.aload_n 0, 1) := by decide +kernel
theorem d_Moment_bestPair_35 : decode b_Moment_bestPair 35 = .ok (.getfield 42, 3) := by decide +kernel
theorem d_Moment_bestPair_38 : decode b_Moment_bestPair 38 = .ok (.iload_n 3, 1) := by decide +kernel
theorem d_Moment_bestPair_39 : decode b_Moment_bestPair 39 = .ok (.invokestatic 45, 3) := by decide +kernel
theorem d_Moment_bestPair_42 : decode b_Moment_bestPair 42 = .ok (.ifCond .eq 45, 3) := by decide +kernel
theorem d_Moment_bestPair_45 : decode b_Moment_bestPair 45 = .ok (.aload_n 0, 1) := by decide +kernel
theorem d_Moment_bestPair_46 : decode b_Moment_bestPair 46 = .ok (.getfield 42, 3) := by decide +kernel
theorem d_Moment_bestPair_49 : decode b_Moment_bestPair 49 = .ok (.iload 4, 2) := by decide +kernel
theorem d_Moment_bestPair_51 : decode b_Moment_bestPair 51 = .ok (.invokestatic 45, 3) := by decide +kernel
theorem d_Moment_bestPair_54 : decode b_Moment_bestPair 54 = .ok (.ifCond .eq 33, 3) := by decide +kernel
theorem d_Moment_bestPair_57 : decode b_Moment_bestPair 57 = .ok (.aload_n 0, 1) := by decide +kernel
theorem d_Moment_bestPair_58 : decode b_Moment_bestPair 58 = .ok (.iload_n 3, 1) := by decide +kernel
theorem d_Moment_bestPair_59 : decode b_Moment_bestPair 59 = .ok (.iload 4, 2) := by decide +kernel
theorem d_Moment_bestPair_61 : decode b_Moment_bestPair 61 = .ok (.invokevirtual 90, 3) := by decide +kernel
theorem d_Moment_bestPair_64 : decode b_Moment_bestPair 64 = .ok (.iload_n 2, 1) := by decide +kernel
theorem d_Moment_bestPair_65 : decode b_Moment_bestPair 65 = .ok (.if_icmp .gt 6, 3) := by decide +kernel
theorem d_Moment_bestPair_68 : decode b_Moment_bestPair 68 = .ok (.goto 19, 3) := by decide +kernel
theorem d_Moment_bestPair_71 : decode b_Moment_bestPair 71 = .ok (.bipush 8, 2) := by decide +kernel
theorem d_Moment_bestPair_73 : decode b_Moment_bestPair 73 = .ok (.iload_n 3, 1) := by decide +kernel
theorem d_Moment_bestPair_74 : decode b_Moment_bestPair 74 = .ok (.imul, 1) := by decide +kernel
theorem d_Moment_bestPair_75 : decode b_Moment_bestPair 75 = .ok (.iload 4, 2) := by decide +kernel
theorem d_Moment_bestPair_77 : decode b_Moment_bestPair 77 = .ok (.iadd, 1) := by decide +kernel
theorem d_Moment_bestPair_78 : decode b_Moment_bestPair 78 = .ok (.istore_n 1, 1) := by decide +kernel
theorem d_Moment_bestPair_79 : decode b_Moment_bestPair 79 = .ok (.aload_n 0, 1) := by decide +kernel
theorem d_Moment_bestPair_80 : decode b_Moment_bestPair 80 = .ok (.iload_n 3, 1) := by decide +kernel
theorem d_Moment_bestPair_81 : decode b_Moment_bestPair 81 = .ok (.iload 4, 2) := by decide +kernel
theorem d_Moment_bestPair_83 : decode b_Moment_bestPair 83 = .ok (.invokevirtual 90, 3) := by decide +kernel
theorem d_Moment_bestPair_86 : decode b_Moment_bestPair 86 = .ok (.istore_n 2, 1) := by decide +kernel
theorem d_Moment_bestPair_87 : decode b_Moment_bestPair 87 = .ok (.iinc 4 1, 3) := by decide +kernel
theorem d_Moment_bestPair_90 : decode b_Moment_bestPair 90 = .ok (.goto (-68), 3) := by decide +kernel
theorem d_Moment_bestPair_93 : decode b_Moment_bestPair 93 = .ok (.iinc 3 1, 3) := by decide +kernel
theorem d_Moment_bestPair_96 : decode b_Moment_bestPair 96 = .ok (.goto (-90), 3) := by decide +kernel
theorem d_Moment_bestPair_99 : decode b_Moment_bestPair 99 = .ok (.iload_n 1, 1) := by decide +kernel
theorem d_Moment_bestPair_100 : decode b_Moment_bestPair 100 = .ok (.ireturn, 1) := by decide +kernel
theorem d_Moment_pairWorth_0 : decode b_Moment_pairWorth 0 = .ok (.iconst 0, 1) := by decide +kernel
theorem d_Moment_pairWorth_1 : decode b_Moment_pairWorth 1 = .ok (.istore_n 3, 1) := by decide +kernel
theorem d_Moment_pairWorth_2 : decode b_Moment_pairWorth 2 = .ok (.iconst 0, 1) := by decide +kernel
theorem d_Moment_pairWorth_3 : decode b_Moment_pairWorth 3 = .ok (.istore 4, 2) := by decide +kernel
theorem d_Moment_pairWorth_5 : decode b_Moment_pairWorth 5 = .ok (.iload 4, 2) := by decide +kernel
theorem d_Moment_pairWorth_7 : decode b_Moment_pairWorth 7 = .ok (.aload_n 0, 1) := by decide +kernel
theorem d_Moment_pairWorth_8 : decode b_Moment_pairWorth 8 = .ok (.getfield 9, 3) := by decide +kernel
theorem d_Moment_pairWorth_11 : decode b_Moment_pairWorth 11 = .ok (.getfield 33, 3) := by decide +kernel
theorem d_Moment_pairWorth_14 : decode b_Moment_pairWorth 14 = .ok (.if_icmp .ge 29, 3) := by decide +kernel
theorem d_Moment_pairWorth_17 : decode b_Moment_pairWorth 17 = .ok (.iload_n 3, 1) := by decide +kernel
theorem d_Moment_pairWorth_18 : decode b_Moment_pairWorth 18 = .ok (.aload_n 0, 1) := by decide +kernel
theorem d_Moment_pairWorth_19 : decode b_Moment_pairWorth 19 = .ok (.iload 4, 2) := by decide +kernel
theorem d_Moment_pairWorth_21 : decode b_Moment_pairWorth 21 = .ok (.iload_n 1, 1) := by decide +kernel
theorem d_Moment_pairWorth_22 : decode b_Moment_pairWorth 22 = .ok (.invokevirtual 36, 3) := by decide +kernel
theorem d_Moment_pairWorth_25 : decode b_Moment_pairWorth 25 = .ok (.aload_n 0, 1) := by decide +kernel
theorem d_Moment_pairWorth_26 : decode b_Moment_pairWorth 26 = .ok (.iload 4, 2) := by decide +kernel
theorem d_Moment_pairWorth_28 : decode b_Moment_pairWorth 28 = .ok (.iload_n 2, 1) := by decide +kernel
theorem d_Moment_pairWorth_29 : decode b_Moment_pairWorth 29 = .ok (.invokevirtual 36, 3) := by decide +kernel
theorem d_Moment_pairWorth_32 : decode b_Moment_pairWorth 32 = .ok (.invokestatic 93, 3) := by decide +kernel
theorem d_Moment_pairWorth_35 : decode b_Moment_pairWorth 35 = .ok (.iadd, 1) := by decide +kernel
theorem d_Moment_pairWorth_36 : decode b_Moment_pairWorth 36 = .ok (.istore_n 3, 1) := by decide +kernel
theorem d_Moment_pairWorth_37 : decode b_Moment_pairWorth 37 = .ok (.iinc 4 1, 3) := by decide +kernel
theorem d_Moment_pairWorth_40 : decode b_Moment_pairWorth 40 = .ok (.goto (-35), 3) := by decide +kernel
theorem d_Moment_pairWorth_43 : decode b_Moment_pairWorth 43 = .ok (.iload_n 3, 1) := by decide +kernel
theorem d_Moment_pairWorth_44 : decode b_Moment_pairWorth 44 = .ok (.ireturn, 1) := by decide +kernel
theorem d_Moment_welcomeDishes_0 : decode b_Moment_welcomeDishes 0 = .ok (.iconst 0, 1) := by decide +kernel
theorem d_Moment_welcomeDishes_1 : decode b_Moment_welcomeDishes 1 = .ok (.istore_n 1, 1) := by decide +kernel
theorem d_Moment_welcomeDishes_2 : decode b_Moment_welcomeDishes 2 = .ok (.iconst 0, 1) := by decide +kernel
theorem d_Moment_welcomeDishes_3 : decode b_Moment_welcomeDishes 3 = .ok (.istore_n 2, 1) := by decide +kernel
theorem d_Moment_welcomeDishes_4 : decode b_Moment_welcomeDishes 4 = .ok (.iload_n 2, 1) := by decide +kernel
theorem d_Moment_welcomeDishes_5 : decode b_Moment_welcomeDishes 5 = .ok (.aload_n 0, 1) := by decide +kernel
theorem d_Moment_welcomeDishes_6 : decode b_Moment_welcomeDishes 6 = .ok (.getfield 9, 3) := by decide +kernel
theorem d_Moment_welcomeDishes_9 : decode b_Moment_welcomeDishes 9 = .ok (.getfield 39, 3) := by decide +kernel
theorem d_Moment_welcomeDishes_12 : decode b_Moment_welcomeDishes 12 = .ok (.if_icmp .ge 31, 3) := by decide +kernel
theorem d_Moment_welcomeDishes_15 : decode b_Moment_welcomeDishes 15 = .ok (.aload_n 0, 1) := by decide +kernel
theorem d_Moment_welcomeDishes_16 : decode b_Moment_welcomeDishes 16 = .ok (.getfield 42, 3) := by decide +kernel
theorem d_Moment_welcomeDishes_19 : decode b_Moment_welcomeDishes 19 = .ok (.iload_n 2, 1) := by decide +kernel
theorem d_Moment_welcomeDishes_20 : decode b_Moment_welcomeDishes 20 = .ok (.invokestatic 45, 3) := by decide +kernel
theorem d_Moment_welcomeDishes_23 : decode b_Moment_welcomeDishes 23 = .ok (.ifCond .eq 14, 3) := by decide +kernel
theorem d_Moment_welcomeDishes_26 : decode b_Moment_welcomeDishes 26 = .ok (.aload_n 0, 1) := by decide +kernel
theorem d_Moment_welcomeDishes_27 : decode b_Moment_welcomeDishes 27 = .ok (.iload_n 2, 1) := by decide +kernel
theorem d_Moment_welcomeDishes_28 : decode b_Moment_welcomeDishes 28 = .ok (.invokevirtual 66, 3) := by decide +kernel
theorem d_Moment_welcomeDishes_31 : decode b_Moment_welcomeDishes 31 = .ok (.ifCond .le 6, 3) := by decide +kernel
theorem d_Moment_welcomeDishes_34 : decode b_Moment_welcomeDishes 34 = .ok (.iinc 1 1, 3) := by decide +kernel
theorem d_Moment_welcomeDishes_37 : decode b_Moment_welcomeDishes 37 = .ok (.iinc 2 1, 3) := by decide +kernel
theorem d_Moment_welcomeDishes_40 : decode b_Moment_welcomeDishes 40 = .ok (.goto (-36), 3) := by decide +kernel
theorem d_Moment_welcomeDishes_43 : decode b_Moment_welcomeDishes 43 = .ok (.iload_n 1, 1) := by decide +kernel
theorem d_Moment_welcomeDishes_44 : decode b_Moment_welcomeDishes 44 = .ok (.ireturn, 1) := by decide +kernel
theorem d_Moment_isIn_0 : decode b_Moment_isIn 0 = .ok (.iload_n 0, 1) := by decide +kernel
theorem d_Moment_isIn_1 : decode b_Moment_isIn 1 = .ok (.iload_n 1, 1) := by decide +kernel
theorem d_Moment_isIn_2 : decode b_Moment_isIn 2 = .ok (.ishr, 1) := by decide +kernel
theorem d_Moment_isIn_3 : decode b_Moment_isIn 3 = .ok (.iconst 1, 1) := by decide +kernel
theorem d_Moment_isIn_4 : decode b_Moment_isIn 4 = .ok (.iand, 1) := by decide +kernel
theorem d_Moment_isIn_5 : decode b_Moment_isIn 5 = .ok (.iconst 1, 1) := by decide +kernel
theorem d_Moment_isIn_6 : decode b_Moment_isIn 6 = .ok (.if_icmp .ne 7, 3) := by decide +kernel
theorem d_Moment_isIn_9 : decode b_Moment_isIn 9 = .ok (.iconst 1, 1) := by decide +kernel
theorem d_Moment_isIn_10 : decode b_Moment_isIn 10 = .ok (.goto 4, 3) := by decide +kernel
theorem d_Moment_isIn_13 : decode b_Moment_isIn 13 = .ok (.iconst 0, 1) := by decide +kernel
theorem d_Moment_isIn_14 : decode b_Moment_isIn 14 = .ok (.ireturn, 1) := by decide +kernel
theorem d_Note_init_0 : decode b_Note_init 0 = .ok (.aload_n 0, 1) := by decide +kernel
theorem d_Note_init_1 : decode b_Note_init 1 = .ok (.invokespecial 1, 3) := by decide +kernel
theorem d_Note_init_4 : decode b_Note_init 4 = .ok (.return_, 1) := by decide +kernel
theorem d_Notes_init_0 : decode b_Notes_init 0 = .ok (.aload_n 0, 1) := by decide +kernel
theorem d_Notes_init_1 : decode b_Notes_init 1 = .ok (.invokespecial 3, 3) := by decide +kernel
theorem d_Notes_init_4 : decode b_Notes_init 4 = .ok (.aload_n 0, 1) := by decide +kernel
theorem d_Notes_init_5 : decode b_Notes_init 5 = .ok (.bipush 8, 2) := by decide +kernel
theorem d_Notes_init_7 : decode b_Notes_init 7 = .ok (.anewarray 9, 3) := by decide +kernel
theorem d_Notes_init_10 : decode b_Notes_init 10 = .ok (.putfield 11, 3) := by decide +kernel
theorem d_Notes_init_13 : decode b_Notes_init 13 = .ok (.iconst 0, 1) := by decide +kernel
theorem d_Notes_init_14 : decode b_Notes_init 14 = .ok (.istore_n 1, 1) := by decide +kernel
theorem d_Notes_init_15 : decode b_Notes_init 15 = .ok (.iload_n 1, 1) := by decide +kernel
theorem d_Notes_init_16 : decode b_Notes_init 16 = .ok (.aload_n 0, 1) := by decide +kernel
theorem d_Notes_init_17 : decode b_Notes_init 17 = .ok (.getfield 11, 3) := by decide +kernel
theorem d_Notes_init_20 : decode b_Notes_init 20 = .ok (.arraylength, 1) := by decide +kernel
theorem d_Notes_init_21 : decode b_Notes_init 21 = .ok (.if_icmp .ge 22, 3) := by decide +kernel
theorem d_Notes_init_24 : decode b_Notes_init 24 = .ok (.aload_n 0, 1) := by decide +kernel
theorem d_Notes_init_25 : decode b_Notes_init 25 = .ok (.getfield 11, 3) := by decide +kernel
theorem d_Notes_init_28 : decode b_Notes_init 28 = .ok (.iload_n 1, 1) := by decide +kernel
theorem d_Notes_init_29 : decode b_Notes_init 29 = .ok (.new 9, 3) := by decide +kernel
theorem d_Notes_init_32 : decode b_Notes_init 32 = .ok (.dup, 1) := by decide +kernel
theorem d_Notes_init_33 : decode b_Notes_init 33 = .ok (.invokespecial 17, 3) := by decide +kernel
theorem d_Notes_init_36 : decode b_Notes_init 36 = .ok (.aastore, 1) := by decide +kernel
theorem d_Notes_init_37 : decode b_Notes_init 37 = .ok (.iinc 1 1, 3) := by decide +kernel
theorem d_Notes_init_40 : decode b_Notes_init 40 = .ok (.goto (-25), 3) := by decide +kernel
theorem d_Notes_init_43 : decode b_Notes_init 43 = .ok (.return_, 1) := by decide +kernel
theorem d_Notes_get_0 : decode b_Notes_get 0 = .ok (.iload_n 1, 1) := by decide +kernel
theorem d_Notes_get_1 : decode b_Notes_get 1 = .ok (.ifCond .lt 21, 3) := by decide +kernel
theorem d_Notes_get_4 : decode b_Notes_get 4 = .ok (.iload_n 1, 1) := by decide +kernel
theorem d_Notes_get_5 : decode b_Notes_get 5 = .ok (.aload_n 0, 1) := by decide +kernel
theorem d_Notes_get_6 : decode b_Notes_get 6 = .ok (.getfield 11, 3) := by decide +kernel
theorem d_Notes_get_9 : decode b_Notes_get 9 = .ok (.arraylength, 1) := by decide +kernel
theorem d_Notes_get_10 : decode b_Notes_get 10 = .ok (.if_icmp .ge 12, 3) := by decide +kernel
theorem d_Notes_get_13 : decode b_Notes_get 13 = .ok (.aload_n 0, 1) := by decide +kernel
theorem d_Notes_get_14 : decode b_Notes_get 14 = .ok (.getfield 11, 3) := by decide +kernel
theorem d_Notes_get_17 : decode b_Notes_get 17 = .ok (.iload_n 1, 1) := by decide +kernel
theorem d_Notes_get_18 : decode b_Notes_get 18 = .ok (.aaload, 1) := by decide +kernel
theorem d_Notes_get_19 : decode b_Notes_get 19 = .ok (.goto 4, 3) := by decide +kernel
theorem d_Notes_get_22 : decode b_Notes_get 22 = .ok (.aconst_null, 1) := by decide +kernel
theorem d_Notes_get_23 : decode b_Notes_get 23 = .ok (.areturn, 1) := by decide +kernel
theorem d_Notes_next_0 : decode b_Notes_next 0 = .ok (.aload_n 0, 1) := by decide +kernel
theorem d_Notes_next_1 : decode b_Notes_next 1 = .ok (.aload_n 0, 1) := by decide +kernel
theorem d_Notes_next_2 : decode b_Notes_next 2 = .ok (.getfield 18, 3) := by decide +kernel
theorem d_Notes_next_5 : decode b_Notes_next 5 = .ok (.invokevirtual 22, 3) := by decide +kernel
theorem d_Notes_next_8 : decode b_Notes_next 8 = .ok (.astore_n 1, 1) := by decide +kernel
theorem d_Notes_next_9 : decode b_Notes_next 9 = .ok (.aload_n 1, 1) := by decide +kernel
theorem d_Notes_next_10 : decode b_Notes_next 10 = .ok (.ifnull 13, 3) := by decide +kernel
theorem d_Notes_next_13 : decode b_Notes_next 13 = .ok (.aload_n 0, 1) := by decide +kernel
theorem d_Notes_next_14 : decode b_Notes_next 14 = .ok (.dup, 1) := by decide +kernel
theorem d_Notes_next_15 : decode b_Notes_next 15 = .ok (.getfield 18, 3) := by decide +kernel
theorem d_Notes_next_18 : decode b_Notes_next 18 = .ok (.iconst 1, 1) := by decide +kernel
theorem d_Notes_next_19 : decode b_Notes_next 19 = .ok (.iadd, 1) := by decide +kernel
theorem d_Notes_next_20 : decode b_Notes_next 20 = .ok (.putfield 18, 3) := by decide +kernel
theorem d_Notes_next_23 : decode b_Notes_next 23 = .ok (.aload_n 1, 1) := by decide +kernel
theorem d_Notes_next_24 : decode b_Notes_next 24 = .ok (.areturn, 1) := by decide +kernel
theorem d_Pile_init_0 : decode b_Pile_init 0 = .ok (.aload_n 0, 1) := by decide +kernel
theorem d_Pile_init_1 : decode b_Pile_init 1 = .ok (.invokespecial 1, 3) := by decide +kernel
theorem d_Pile_init_4 : decode b_Pile_init 4 = .ok (.aload_n 0, 1) := by decide +kernel
theorem d_Pile_init_5 : decode b_Pile_init 5 = .ok (.iload_n 1, 1) := by decide +kernel
theorem d_Pile_init_6 : decode b_Pile_init 6 = .ok (.ifCond .le 7, 3) := by decide +kernel
theorem d_Pile_init_9 : decode b_Pile_init 9 = .ok (.iload_n 1, 1) := by decide +kernel
theorem d_Pile_init_10 : decode b_Pile_init 10 = .ok (.goto 4, 3) := by decide +kernel
theorem d_Pile_init_13 : decode b_Pile_init 13 = .ok (.iconst 1, 1) := by decide +kernel
theorem d_Pile_init_14 : decode b_Pile_init 14 = .ok (.anewarray 7, 3) := by decide +kernel
theorem d_Pile_init_17 : decode b_Pile_init 17 = .ok (.putfield 9, 3) := by decide +kernel
theorem d_Pile_init_20 : decode b_Pile_init 20 = .ok (.iconst 0, 1) := by decide +kernel
theorem d_Pile_init_21 : decode b_Pile_init 21 = .ok (.istore_n 2, 1) := by decide +kernel
theorem d_Pile_init_22 : decode b_Pile_init 22 = .ok (.iload_n 2, 1) := by decide +kernel
theorem d_Pile_init_23 : decode b_Pile_init 23 = .ok (.aload_n 0, 1) := by decide +kernel
theorem d_Pile_init_24 : decode b_Pile_init 24 = .ok (.getfield 9, 3) := by decide +kernel
theorem d_Pile_init_27 : decode b_Pile_init 27 = .ok (.arraylength, 1) := by decide +kernel
theorem d_Pile_init_28 : decode b_Pile_init 28 = .ok (.if_icmp .ge 22, 3) := by decide +kernel
theorem d_Pile_init_31 : decode b_Pile_init 31 = .ok (.aload_n 0, 1) := by decide +kernel
theorem d_Pile_init_32 : decode b_Pile_init 32 = .ok (.getfield 9, 3) := by decide +kernel
theorem d_Pile_init_35 : decode b_Pile_init 35 = .ok (.iload_n 2, 1) := by decide +kernel
theorem d_Pile_init_36 : decode b_Pile_init 36 = .ok (.new 7, 3) := by decide +kernel
theorem d_Pile_init_39 : decode b_Pile_init 39 = .ok (.dup, 1) := by decide +kernel
theorem d_Pile_init_40 : decode b_Pile_init 40 = .ok (.invokespecial 15, 3) := by decide +kernel
theorem d_Pile_init_43 : decode b_Pile_init 43 = .ok (.aastore, 1) := by decide +kernel
theorem d_Pile_init_44 : decode b_Pile_init 44 = .ok (.iinc 2 1, 3) := by decide +kernel
theorem d_Pile_init_47 : decode b_Pile_init 47 = .ok (.goto (-25), 3) := by decide +kernel
theorem d_Pile_init_50 : decode b_Pile_init 50 = .ok (.return_, 1) := by decide +kernel
theorem d_Pile_push_0 : decode b_Pile_push 0 = .ok (.aload_n 0, 1) := by decide +kernel
theorem d_Pile_push_1 : decode b_Pile_push 1 = .ok (.getfield 16, 3) := by decide +kernel
theorem d_Pile_push_4 : decode b_Pile_push 4 = .ok (.aload_n 0, 1) := by decide +kernel
theorem d_Pile_push_5 : decode b_Pile_push 5 = .ok (.getfield 9, 3) := by decide +kernel
theorem d_Pile_push_8 : decode b_Pile_push 8 = .ok (.arraylength, 1) := by decide +kernel
theorem d_Pile_push_9 : decode b_Pile_push 9 = .ok (.if_icmp .lt 7, 3) := by decide +kernel
theorem d_Pile_push_12 : decode b_Pile_push 12 = .ok (.aload_n 0, 1) := by decide +kernel
theorem d_Pile_push_13 : decode b_Pile_push 13 = .ok (.invokevirtual 20, 3) := by decide +kernel
theorem d_Pile_push_16 : decode b_Pile_push 16 = .ok (.aload_n 1, 1) := by decide +kernel
theorem d_Pile_push_17 : decode b_Pile_push 17 = .ok (.aload_n 0, 1) := by decide +kernel
theorem d_Pile_push_18 : decode b_Pile_push 18 = .ok (.aload_n 0, 1) := by decide +kernel
theorem d_Pile_push_19 : decode b_Pile_push 19 = .ok (.getfield 16, 3) := by decide +kernel
theorem d_Pile_push_22 : decode b_Pile_push 22 = .ok (.invokevirtual 23, 3) := by decide +kernel
theorem d_Pile_push_25 : decode b_Pile_push 25 = .ok (.invokestatic 27, 3) := by decide +kernel
theorem d_Pile_push_28 : decode b_Pile_push 28 = .ok (.aload_n 0, 1) := by decide +kernel
theorem d_Pile_push_29 : decode b_Pile_push 29 = .ok (.dup, 1) := by decide +kernel
theorem d_Pile_push_30 : decode b_Pile_push 30 = .ok (.getfield 16, 3) := by decide +kernel
theorem d_Pile_push_33 : decode b_Pile_push 33 = .ok (.iconst 1, 1) := by decide +kernel
theorem d_Pile_push_34 : decode b_Pile_push 34 = .ok (.iadd, 1) := by decide +kernel
theorem d_Pile_push_35 : decode b_Pile_push 35 = .ok (.putfield 16, 3) := by decide +kernel
theorem d_Pile_push_38 : decode b_Pile_push 38 = .ok (.return_, 1) := by decide +kernel
theorem d_Pile_popInto_0 : decode b_Pile_popInto 0 = .ok (.aload_n 0, 1) := by decide +kernel
theorem d_Pile_popInto_1 : decode b_Pile_popInto 1 = .ok (.getfield 16, 3) := by decide +kernel
theorem d_Pile_popInto_4 : decode b_Pile_popInto 4 = .ok (.iconst 1, 1) := by decide +kernel
theorem d_Pile_popInto_5 : decode b_Pile_popInto 5 = .ok (.if_icmp .ge 5, 3) := by decide +kernel
theorem d_Pile_popInto_8 : decode b_Pile_popInto 8 = .ok (.iconst 0, 1) := by decide +kernel
theorem d_Pile_popInto_9 : decode b_Pile_popInto 9 = .ok (.ireturn, 1) := by decide +kernel
theorem d_Pile_popInto_10 : decode b_Pile_popInto 10 = .ok (.aload_n 0, 1) := by decide +kernel
theorem d_Pile_popInto_11 : decode b_Pile_popInto 11 = .ok (.dup, 1) := by decide +kernel
theorem d_Pile_popInto_12 : decode b_Pile_popInto 12 = .ok (.getfield 16, 3) := by decide +kernel
theorem d_Pile_popInto_15 : decode b_Pile_popInto 15 = .ok (.iconst 1, 1) := by decide +kernel
theorem d_Pile_popInto_16 : decode b_Pile_popInto 16 = .ok (.isub, 1) := by decide +kernel
theorem d_Pile_popInto_17 : decode b_Pile_popInto 17 = .ok (.putfield 16, 3) := by decide +kernel
theorem d_Pile_popInto_20 : decode b_Pile_popInto 20 = .ok (.aload_n 0, 1) := by decide +kernel
theorem d_Pile_popInto_21 : decode b_Pile_popInto 21 = .ok (.aload_n 0, 1) := by decide +kernel
theorem d_Pile_popInto_22 : decode b_Pile_popInto 22 = .ok (.getfield 16, 3) := by decide +kernel
theorem d_Pile_popInto_25 : decode b_Pile_popInto 25 = .ok (.invokevirtual 23, 3) := by decide +kernel
theorem d_Pile_popInto_28 : decode b_Pile_popInto 28 = .ok (.aload_n 1, 1) := by decide +kernel
theorem d_Pile_popInto_29 : decode b_Pile_popInto 29 = .ok (.invokestatic 27, 3) := by decide +kernel
theorem d_Pile_popInto_32 : decode b_Pile_popInto 32 = .ok (.iconst 1, 1) := by decide +kernel
theorem d_Pile_popInto_33 : decode b_Pile_popInto 33 = .ok (.ireturn, 1) := by decide +kernel
theorem d_Pile_dropLowest_0 : decode b_Pile_dropLowest 0 = .ok (.iconst 1, 1) := by decide +kernel
theorem d_Pile_dropLowest_1 : decode b_Pile_dropLowest 1 = .ok (.istore_n 1, 1) := by decide +kernel
theorem d_Pile_dropLowest_2 : decode b_Pile_dropLowest 2 = .ok (.iload_n 1, 1) := by decide +kernel
theorem d_Pile_dropLowest_3 : decode b_Pile_dropLowest 3 = .ok (.aload_n 0, 1) := by decide +kernel
theorem d_Pile_dropLowest_4 : decode b_Pile_dropLowest 4 = .ok (.getfield 9, 3) := by decide +kernel
theorem d_Pile_dropLowest_7 : decode b_Pile_dropLowest 7 = .ok (.arraylength, 1) := by decide +kernel
theorem d_Pile_dropLowest_8 : decode b_Pile_dropLowest 8 = .ok (.if_icmp .ge 24, 3) := by decide +kernel
theorem d_Pile_dropLowest_11 : decode b_Pile_dropLowest 11 = .ok (.aload_n 0, 1) := by decide +kernel
theorem d_Pile_dropLowest_12 : decode b_Pile_dropLowest 12 = .ok (.iload_n 1, 1) := by decide +kernel
theorem d_Pile_dropLowest_13 : decode b_Pile_dropLowest 13 = .ok (.invokevirtual 23, 3) := by decide +kernel
theorem d_Pile_dropLowest_16 : decode b_Pile_dropLowest 16 = .ok (.aload_n 0, 1) := by decide +kernel
theorem d_Pile_dropLowest_17 : decode b_Pile_dropLowest 17 = .ok (.iload_n 1, 1) := by decide +kernel
theorem d_Pile_dropLowest_18 : decode b_Pile_dropLowest 18 = .ok (.iconst 1, 1) := by decide +kernel
theorem d_Pile_dropLowest_19 : decode b_Pile_dropLowest 19 = .ok (.isub, 1) := by decide +kernel
theorem d_Pile_dropLowest_20 : decode b_Pile_dropLowest 20 = .ok (.invokevirtual 23, 3) := by decide +kernel
theorem d_Pile_dropLowest_23 : decode b_Pile_dropLowest 23 = .ok (.invokestatic 27, 3) := by decide +kernel
theorem d_Pile_dropLowest_26 : decode b_Pile_dropLowest 26 = .ok (.iinc 1 1, 3) := by decide +kernel
theorem d_Pile_dropLowest_29 : decode b_Pile_dropLowest 29 = .ok (.goto (-27), 3) := by decide +kernel
theorem d_Pile_dropLowest_32 : decode b_Pile_dropLowest 32 = .ok (.aload_n 0, 1) := by decide +kernel
theorem d_Pile_dropLowest_33 : decode b_Pile_dropLowest 33 = .ok (.aload_n 0, 1) := by decide +kernel
theorem d_Pile_dropLowest_34 : decode b_Pile_dropLowest 34 = .ok (.getfield 9, 3) := by decide +kernel
theorem d_Pile_dropLowest_37 : decode b_Pile_dropLowest 37 = .ok (.arraylength, 1) := by decide +kernel
theorem d_Pile_dropLowest_38 : decode b_Pile_dropLowest 38 = .ok (.iconst 1, 1) := by decide +kernel
theorem d_Pile_dropLowest_39 : decode b_Pile_dropLowest 39 = .ok (.isub, 1) := by decide +kernel
theorem d_Pile_dropLowest_40 : decode b_Pile_dropLowest 40 = .ok (.putfield 16, 3) := by decide +kernel
theorem d_Pile_dropLowest_43 : decode b_Pile_dropLowest 43 = .ok (.return_, 1) := by decide +kernel
theorem d_Pile_get_0 : decode b_Pile_get 0 = .ok (.iload_n 1, 1) := by decide +kernel
theorem d_Pile_get_1 : decode b_Pile_get 1 = .ok (.ifCond .lt 21, 3) := by decide +kernel
theorem d_Pile_get_4 : decode b_Pile_get 4 = .ok (.iload_n 1, 1) := by decide +kernel
theorem d_Pile_get_5 : decode b_Pile_get 5 = .ok (.aload_n 0, 1) := by decide +kernel
theorem d_Pile_get_6 : decode b_Pile_get 6 = .ok (.getfield 9, 3) := by decide +kernel
theorem d_Pile_get_9 : decode b_Pile_get 9 = .ok (.arraylength, 1) := by decide +kernel
theorem d_Pile_get_10 : decode b_Pile_get 10 = .ok (.if_icmp .ge 12, 3) := by decide +kernel
theorem d_Pile_get_13 : decode b_Pile_get 13 = .ok (.aload_n 0, 1) := by decide +kernel
theorem d_Pile_get_14 : decode b_Pile_get 14 = .ok (.getfield 9, 3) := by decide +kernel
theorem d_Pile_get_17 : decode b_Pile_get 17 = .ok (.iload_n 1, 1) := by decide +kernel
theorem d_Pile_get_18 : decode b_Pile_get 18 = .ok (.aaload, 1) := by decide +kernel
theorem d_Pile_get_19 : decode b_Pile_get 19 = .ok (.goto 4, 3) := by decide +kernel
theorem d_Pile_get_22 : decode b_Pile_get 22 = .ok (.aconst_null, 1) := by decide +kernel
theorem d_Pile_get_23 : decode b_Pile_get 23 = .ok (.areturn, 1) := by decide +kernel
theorem d_Pile_copy_0 : decode b_Pile_copy 0 = .ok (.aload_n 0, 1) := by decide +kernel
theorem d_Pile_copy_1 : decode b_Pile_copy 1 = .ok (.ifnull 12, 3) := by decide +kernel
theorem d_Pile_copy_4 : decode b_Pile_copy 4 = .ok (.aload_n 1, 1) := by decide +kernel
theorem d_Pile_copy_5 : decode b_Pile_copy 5 = .ok (.ifnull 8, 3) := by decide +kernel
theorem d_Pile_copy_8 : decode b_Pile_copy 8 = .ok (.aload_n 1, 1) := by decide +kernel
theorem d_Pile_copy_9 : decode b_Pile_copy 9 = .ok (.aload_n 0, 1) := by decide +kernel
theorem d_Pile_copy_10 : decode b_Pile_copy 10 = .ok (.invokevirtual 31, 3) := by decide +kernel
theorem d_Pile_copy_13 : decode b_Pile_copy 13 = .ok (.return_, 1) := by decide +kernel
theorem d_Reader_init_0 : decode b_Reader_init 0 = .ok (.aload_n 0, 1) := by decide +kernel
theorem d_Reader_init_1 : decode b_Reader_init 1 = .ok (.invokespecial 3, 3) := by decide +kernel
theorem d_Reader_init_4 : decode b_Reader_init 4 = .ok (.aload_n 0, 1) := by decide +kernel
theorem d_Reader_init_5 : decode b_Reader_init 5 = .ok (.sipush 200, 3) := by decide +kernel
theorem d_Reader_init_8 : decode b_Reader_init 8 = .ok (.newarray .int, 2) := by decide +kernel
theorem d_Reader_init_10 : decode b_Reader_init 10 = .ok (.putfield 9, 3) := by decide +kernel
theorem d_Reader_init_13 : decode b_Reader_init 13 = .ok (.return_, 1) := by decide +kernel
theorem d_Reader_append_0 : decode b_Reader_append 0 = .ok (.aload_n 0, 1) := by decide +kernel
theorem d_Reader_append_1 : decode b_Reader_append 1 = .ok (.getfield 15, 3) := by decide +kernel
theorem d_Reader_append_4 : decode b_Reader_append 4 = .ok (.sipush 200, 3) := by decide +kernel
theorem d_Reader_append_7 : decode b_Reader_append 7 = .ok (.if_icmp .lt 4, 3) := by decide +kernel
theorem d_Reader_append_10 : decode b_Reader_append 10 = .ok (.return_, 1) := by decide +kernel
theorem d_Reader_append_11 : decode b_Reader_append 11 = .ok (.aload_n 0, 1) := by decide +kernel
theorem d_Reader_append_12 : decode b_Reader_append 12 = .ok (.getfield 9, 3) := by decide +kernel
theorem d_Reader_append_15 : decode b_Reader_append 15 = .ok (.aload_n 0, 1) := by decide +kernel
theorem d_Reader_append_16 : decode b_Reader_append 16 = .ok (.getfield 15, 3) := by decide +kernel
theorem d_Reader_append_19 : decode b_Reader_append 19 = .ok (.iload_n 1, 1) := by decide +kernel
theorem d_Reader_append_20 : decode b_Reader_append 20 = .ok (.invokestatic 19, 3) := by decide +kernel
theorem d_Reader_append_23 : decode b_Reader_append 23 = .ok (.aload_n 0, 1) := by decide +kernel
theorem d_Reader_append_24 : decode b_Reader_append 24 = .ok (.dup, 1) := by decide +kernel
theorem d_Reader_append_25 : decode b_Reader_append 25 = .ok (.getfield 15, 3) := by decide +kernel
theorem d_Reader_append_28 : decode b_Reader_append 28 = .ok (.iconst 1, 1) := by decide +kernel
theorem d_Reader_append_29 : decode b_Reader_append 29 = .ok (.iadd, 1) := by decide +kernel
theorem d_Reader_append_30 : decode b_Reader_append 30 = .ok (.putfield 15, 3) := by decide +kernel
theorem d_Reader_append_33 : decode b_Reader_append 33 = .ok (.return_, 1) := by decide +kernel
theorem d_Reader_readInto_0 : decode b_Reader_readInto 0 = .ok (.aload_n 1, 1) := by decide +kernel
theorem d_Reader_readInto_1 : decode b_Reader_readInto 1 = .ok (.invokevirtual 23, 3) := by decide +kernel
theorem d_Reader_readInto_4 : decode b_Reader_readInto 4 = .ok (.aload_n 0, 1) := by decide +kernel
theorem d_Reader_readInto_5 : decode b_Reader_readInto 5 = .ok (.iconst 0, 1) := by decide +kernel
theorem d_Reader_readInto_6 : decode b_Reader_readInto 6 = .ok (.putfield 28, 3) := by decide +kernel
theorem d_Reader_readInto_9 : decode b_Reader_readInto 9 = .ok (.aload_n 0, 1) := by decide +kernel
theorem d_Reader_readInto_10 : decode b_Reader_readInto 10 = .ok (.iconst 1, 1) := by decide +kernel
theorem d_Reader_readInto_11 : decode b_Reader_readInto 11 = .ok (.putfield 31, 3) := by decide +kernel
theorem d_Reader_readInto_14 : decode b_Reader_readInto 14 = .ok (.iconst 0, 1) := by decide +kernel
theorem d_Reader_readInto_15 : decode b_Reader_readInto 15 = .ok (.istore_n 2, 1) := by decide +kernel
theorem d_Reader_readInto_16 : decode b_Reader_readInto 16 = .ok (.iload_n 2, 1) := by decide +kernel
theorem d_Reader_readInto_17 : decode b_Reader_readInto 17 = .ok (.sipush 200, 3) := by decide +kernel
theorem d_Reader_readInto_20 : decode b_Reader_readInto 20 = .ok (.if_icmp .ge 35, 3) := by decide +kernel
theorem d_Reader_readInto_23 : decode b_Reader_readInto 23 = .ok (.aload_n 0, 1) := by decide +kernel
theorem d_Reader_readInto_24 : decode b_Reader_readInto 24 = .ok (.getfield 28, 3) := by decide +kernel
theorem d_Reader_readInto_27 : decode b_Reader_readInto 27 = .ok (.aload_n 0, 1) := by decide +kernel
theorem d_Reader_readInto_28 : decode b_Reader_readInto 28 = .ok (.getfield 15, 3) := by decide +kernel
theorem d_Reader_readInto_31 : decode b_Reader_readInto 31 = .ok (.if_icmp .ge 24, 3) := by decide +kernel
theorem d_Reader_readInto_34 : decode b_Reader_readInto 34 = .ok (.aload_n 0, 1) := by decide +kernel
theorem d_Reader_readInto_35 : decode b_Reader_readInto 35 = .ok (.getfield 28, 3) := by decide +kernel
theorem d_Reader_readInto_38 : decode b_Reader_readInto 38 = .ok (.istore_n 3, 1) := by decide +kernel
theorem d_Reader_readInto_39 : decode b_Reader_readInto 39 = .ok (.aload_n 0, 1) := by decide +kernel
theorem d_Reader_readInto_40 : decode b_Reader_readInto 40 = .ok (.aload_n 1, 1) := by decide +kernel
theorem d_Reader_readInto_41 : decode b_Reader_readInto 41 = .ok (.invokevirtual 35, 3) := by decide +kernel
theorem d_Reader_readInto_44 : decode b_Reader_readInto 44 = .ok (.ifCond .ne 5, 3) := by decide +kernel
theorem d_Reader_readInto_47 : decode b_Reader_readInto 47 = .ok (.iload_n 3, 1) := by decide +kernel
theorem d_Reader_readInto_48 : decode b_Reader_readInto 48 = .ok (.ireturn, 1) := by decide +kernel
theorem d_Reader_readInto_49 : decode b_Reader_readInto 49 = .ok (.iinc 2 1, 3) := by decide +kernel
theorem d_Reader_readInto_52 : decode b_Reader_readInto 52 = .ok (.goto (-36), 3) := by decide +kernel
theorem d_Reader_readInto_55 : decode b_Reader_readInto 55 = .ok (.bipush (-4), 2) := by decide +kernel
theorem d_Reader_readInto_57 : decode b_Reader_readInto 57 = .ok (.ireturn, 1) := by decide +kernel
theorem d_Reader_readItem_0 : decode b_Reader_readItem 0 = .ok (.aload_n 0, 1) := by decide +kernel
theorem d_Reader_readItem_1 : decode b_Reader_readItem 1 = .ok (.invokevirtual 39, 3) := by decide +kernel
theorem d_Reader_readItem_4 : decode b_Reader_readItem 4 = .ok (.istore_n 2, 1) := by decide +kernel
theorem d_Reader_readItem_5 : decode b_Reader_readItem 5 = .ok (.aload_n 0, 1) := by decide +kernel
theorem d_Reader_readItem_6 : decode b_Reader_readItem 6 = .ok (.dup, 1) := by decide +kernel
theorem d_Reader_readItem_7 : decode b_Reader_readItem 7 = .ok (.getfield 28, 3) := by decide +kernel
theorem d_Reader_readItem_10 : decode b_Reader_readItem 10 = .ok (.iconst 1, 1) := by decide +kernel
theorem d_Reader_readItem_11 : decode b_Reader_readItem 11 = .ok (.iadd, 1) := by decide +kernel
theorem d_Reader_readItem_12 : decode b_Reader_readItem 12 = .ok (.putfield 28, 3) := by decide +kernel
theorem d_Reader_readItem_15 : decode b_Reader_readItem 15 = .ok (.iload_n 2, 1) := by decide +kernel
theorem d_Reader_readItem_16 : decode b_Reader_readItem 16 = .ok (.bipush 100, 2) := by decide +kernel
theorem d_Reader_readItem_18 : decode b_Reader_readItem 18 = .ok (.if_icmp .ne 24, 3) := by decide +kernel
theorem d_Reader_readItem_21 : decode b_Reader_readItem 21 = .ok (.aload_n 0, 1) := by decide +kernel
theorem d_Reader_readItem_22 : decode b_Reader_readItem 22 = .ok (.getfield 31, 3) := by decide +kernel
theorem d_Reader_readItem_25 : decode b_Reader_readItem 25 = .ok (.ifCond .eq 15, 3) := by decide +kernel
theorem d_Reader_readItem_28 : decode b_Reader_readItem 28 = .ok (.aload_n 0, 1) := by decide +kernel
theorem d_Reader_readItem_29 : decode b_Reader_readItem 29 = .ok (.aload_n 1, 1) := by decide +kernel
theorem d_Reader_readItem_30 : decode b_Reader_readItem 30 = .ok (.invokevirtual 43, 3) := by decide +kernel
theorem d_Reader_readItem_33 : decode b_Reader_readItem 33 = .ok (.ifCond .eq 7, 3) := by decide +kernel
theorem d_Reader_readItem_36 : decode b_Reader_readItem 36 = .ok (.iconst 1, 1) := by decide +kernel
theorem d_Reader_readItem_37 : decode b_Reader_readItem 37 = .ok (.goto 4, 3) := by decide +kernel
theorem d_Reader_readItem_40 : decode b_Reader_readItem 40 = .ok (.iconst 0, 1) := by decide +kernel
theorem d_Reader_readItem_41 : decode b_Reader_readItem 41 = .ok (.ireturn, 1) := by decide +kernel
theorem d_Reader_readItem_42 : decode b_Reader_readItem 42 = .ok (.aload_n 0, 1) := by decide +kernel
theorem d_Reader_readItem_43 : decode b_Reader_readItem 43 = .ok (.iconst 0, 1) := by decide +kernel
theorem d_Reader_readItem_44 : decode b_Reader_readItem 44 = .ok (.putfield 31, 3) := by decide +kernel
theorem d_Reader_readItem_47 : decode b_Reader_readItem 47 = .ok (.iload_n 2, 1) := by decide +kernel
theorem d_Reader_readItem_48 : decode b_Reader_readItem 48 = .ok (.lookupswitch 82 #[(103, 52), (104, 76), (115, 70), (116, 58), (118, 64)], 52) := by decide +kernel
theorem d_Reader_readItem_100 : decode b_Reader_readItem 100 = .ok (.aload_n 0, 1) := by decide +kernel
theorem d_Reader_readItem_101 : decode b_Reader_readItem 101 = .ok (.aload_n 1, 1) := by decide +kernel
theorem d_Reader_readItem_102 : decode b_Reader_readItem 102 = .ok (.invokevirtual 46, 3) := by decide +kernel
theorem d_Reader_readItem_105 : decode b_Reader_readItem 105 = .ok (.ireturn, 1) := by decide +kernel
theorem d_Reader_readItem_106 : decode b_Reader_readItem 106 = .ok (.aload_n 0, 1) := by decide +kernel
theorem d_Reader_readItem_107 : decode b_Reader_readItem 107 = .ok (.aload_n 1, 1) := by decide +kernel
theorem d_Reader_readItem_108 : decode b_Reader_readItem 108 = .ok (.invokevirtual 49, 3) := by decide +kernel
theorem d_Reader_readItem_111 : decode b_Reader_readItem 111 = .ok (.ireturn, 1) := by decide +kernel
theorem d_Reader_readItem_112 : decode b_Reader_readItem 112 = .ok (.aload_n 0, 1) := by decide +kernel
theorem d_Reader_readItem_113 : decode b_Reader_readItem 113 = .ok (.aload_n 1, 1) := by decide +kernel
theorem d_Reader_readItem_114 : decode b_Reader_readItem 114 = .ok (.invokevirtual 52, 3) := by decide +kernel
theorem d_Reader_readItem_117 : decode b_Reader_readItem 117 = .ok (.ireturn, 1) := by decide +kernel
theorem d_Reader_readItem_118 : decode b_Reader_readItem 118 = .ok (.aload_n 0, 1) := by decide +kernel
theorem d_Reader_readItem_119 : decode b_Reader_readItem 119 = .ok (.aload_n 1, 1) := by decide +kernel
theorem d_Reader_readItem_120 : decode b_Reader_readItem 120 = .ok (.invokevirtual 55, 3) := by decide +kernel
theorem d_Reader_readItem_123 : decode b_Reader_readItem 123 = .ok (.ireturn, 1) := by decide +kernel
theorem d_Reader_readItem_124 : decode b_Reader_readItem 124 = .ok (.aload_n 0, 1) := by decide +kernel
theorem d_Reader_readItem_125 : decode b_Reader_readItem 125 = .ok (.aload_n 1, 1) := by decide +kernel
theorem d_Reader_readItem_126 : decode b_Reader_readItem 126 = .ok (.invokevirtual 58, 3) := by decide +kernel
theorem d_Reader_readItem_129 : decode b_Reader_readItem 129 = .ok (.ireturn, 1) := by decide +kernel
theorem d_Reader_readItem_130 : decode b_Reader_readItem 130 = .ok (.iconst 0, 1) := by decide +kernel
theorem d_Reader_readItem_131 : decode b_Reader_readItem 131 = .ok (.ireturn, 1) := by decide +kernel
theorem d_Reader_readDishes_0 : decode b_Reader_readDishes 0 = .ok (.aload_n 1, 1) := by decide +kernel
theorem d_Reader_readDishes_1 : decode b_Reader_readDishes 1 = .ok (.aload_n 0, 1) := by decide +kernel
theorem d_Reader_readDishes_2 : decode b_Reader_readDishes 2 = .ok (.invokevirtual 61, 3) := by decide +kernel
theorem d_Reader_readDishes_5 : decode b_Reader_readDishes 5 = .ok (.putfield 64, 3) := by decide +kernel
theorem d_Reader_readDishes_8 : decode b_Reader_readDishes 8 = .ok (.aload_n 1, 1) := by decide +kernel
theorem d_Reader_readDishes_9 : decode b_Reader_readDishes 9 = .ok (.getfield 64, 3) := by decide +kernel
theorem d_Reader_readDishes_12 : decode b_Reader_readDishes 12 = .ok (.iconst 2, 1) := by decide +kernel
theorem d_Reader_readDishes_13 : decode b_Reader_readDishes 13 = .ok (.bipush 6, 2) := by decide +kernel
theorem d_Reader_readDishes_15 : decode b_Reader_readDishes 15 = .ok (.invokestatic 67, 3) := by decide +kernel
theorem d_Reader_readDishes_18 : decode b_Reader_readDishes 18 = .ok (.ifCond .ne 16, 3) := by decide +kernel
theorem d_Reader_readDishes_21 : decode b_Reader_readDishes 21 = .ok (.aload_n 0, 1) := by decide +kernel
theorem d_Reader_readDishes_22 : decode b_Reader_readDishes 22 = .ok (.bipush 59, 2) := by decide +kernel
theorem d_Reader_readDishes_24 : decode b_Reader_readDishes 24 = .ok (.invokevirtual 71, 3) := by decide +kernel
theorem d_Reader_readDishes_27 : decode b_Reader_readDishes 27 = .ok (.ifCond .eq 7, 3) := by decide +kernel
theorem d_Reader_readDishes_30 : decode b_Reader_readDishes 30 = .ok (.iconst 1, 1) := by decide +kernel
theorem d_Reader_readDishes_31 : decode b_Reader_readDishes 31 = .ok (.goto 4, 3) := by decide +kernel
theorem d_Reader_readDishes_34 : decode b_Reader_readDishes 34 = .ok (.iconst 0, 1) := by decide +kernel
theorem d_Reader_readDishes_35 : decode b_Reader_readDishes 35 = .ok (.ireturn, 1) := by decide +kernel
theorem d_Reader_readGuest_0 : decode b_Reader_readGuest 0 = .ok (.aload_n 1, 1) := by decide +kernel
theorem d_Reader_readGuest_1 : decode b_Reader_readGuest 1 = .ok (.getfield 75, 3) := by decide +kernel
theorem d_Reader_readGuest_4 : decode b_Reader_readGuest 4 = .ok (.istore_n 2, 1) := by decide +kernel
theorem d_Reader_readGuest_5 : decode b_Reader_readGuest 5 = .ok (.iload_n 2, 1) := by decide +kernel
theorem d_Reader_readGuest_6 : decode b_Reader_readGuest 6 = .ok (.bipush 9, 2) := by decide +kernel
theorem d_Reader_readGuest_8 : decode b_Reader_readGuest 8 = .ok (.if_icmp .lt 5, 3) := by decide +kernel
theorem d_Reader_readGuest_11 : decode b_Reader_readGuest 11 = .ok (.iconst 0, 1) := by decide +kernel
theorem d_Reader_readGuest_12 : decode b_Reader_readGuest 12 = .ok (.ireturn, 1) := by decide +kernel
theorem d_Reader_readGuest_13 : decode b_Reader_readGuest 13 = .ok (.aload_n 0, 1) := by decide +kernel
theorem d_Reader_readGuest_14 : decode b_Reader_readGuest 14 = .ok (.invokevirtual 78, 3) := by decide +kernel
theorem d_Reader_readGuest_17 : decode b_Reader_readGuest 17 = .ok (.istore_n 3, 1) := by decide +kernel
theorem d_Reader_readGuest_18 : decode b_Reader_readGuest 18 = .ok (.iload_n 3, 1) := by decide +kernel
theorem d_Reader_readGuest_19 : decode b_Reader_readGuest 19 = .ok (.iconst 0, 1) := by decide +kernel
theorem d_Reader_readGuest_20 : decode b_Reader_readGuest 20 = .ok (.iconst 3, 1) := by decide +kernel
theorem d_Reader_readGuest_21 : decode b_Reader_readGuest 21 = .ok (.invokestatic 67, 3) := by decide +kernel
theorem d_Reader_readGuest_24 : decode b_Reader_readGuest 24 = .ok (.ifCond .eq 5, 3) := by decide +kernel
theorem d_Reader_readGuest_27 : decode b_Reader_readGuest 27 = .ok (.iconst 0, 1) := by decide +kernel
theorem d_Reader_readGuest_28 : decode b_Reader_readGuest 28 = .ok (.ireturn, 1) := by decide +kernel
theorem d_Reader_readGuest_29 : decode b_Reader_readGuest 29 = .ok (.aload_n 1, 1) := by decide +kernel
theorem d_Reader_readGuest_30 : decode b_Reader_readGuest 30 = .ok (.getfield 81, 3) := by decide +kernel
theorem d_Reader_readGuest_33 : decode b_Reader_readGuest 33 = .ok (.iload_n 2, 1) := by decide +kernel
theorem d_Reader_readGuest_34 : decode b_Reader_readGuest 34 = .ok (.iload_n 3, 1) := by decide +kernel
theorem d_Reader_readGuest_35 : decode b_Reader_readGuest 35 = .ok (.invokestatic 19, 3) := by decide +kernel
theorem d_Reader_readGuest_38 : decode b_Reader_readGuest 38 = .ok (.iconst 0, 1) := by decide +kernel
theorem d_Reader_readGuest_39 : decode b_Reader_readGuest 39 = .ok (.istore 4, 2) := by decide +kernel
theorem d_Reader_readGuest_41 : decode b_Reader_readGuest 41 = .ok (.iload 4, 2) := by decide +kernel
theorem d_Reader_readGuest_43 : decode b_Reader_readGuest 43 = .ok (.aload_n 1, 1) := by decide +kernel
theorem d_Reader_readGuest_44 : decode b_Reader_readGuest 44 = .ok (.getfield 64, 3) := by decide +kernel
theorem d_Reader_readGuest_47 : decode b_Reader_readGuest 47 = .ok (.if_icmp .ge 39, 3) := by decide +kernel
theorem d_Reader_readGuest_50 : decode b_Reader_readGuest 50 = .ok (.aload_n 0, 1) := by decide +kernel
theorem d_Reader_readGuest_51 : decode b_Reader_readGuest 51 = .ok (.invokevirtual 78, 3) := by decide +kernel
theorem d_Reader_readGuest_54 : decode b_Reader_readGuest 54 = .ok (.istore 5, 2) := by decide +kernel
theorem d_Reader_readGuest_56 : decode b_Reader_readGuest 56 = .ok (.iload 5, 2) := by decide +kernel
theorem d_Reader_readGuest_58 : decode b_Reader_readGuest 58 = .ok (.iconst (-1), 1) := by decide +kernel
theorem d_Reader_readGuest_59 : decode b_Reader_readGuest 59 = .ok (.if_icmp .ne 5, 3) := by decide +kernel
theorem d_Reader_readGuest_62 : decode b_Reader_readGuest 62 = .ok (.iconst 0, 1) := by decide +kernel
theorem d_Reader_readGuest_63 : decode b_Reader_readGuest 63 = .ok (.ireturn, 1) := by decide +kernel
theorem d_Reader_readGuest_64 : decode b_Reader_readGuest 64 = .ok (.aload_n 1, 1) := by decide +kernel
theorem d_Reader_readGuest_65 : decode b_Reader_readGuest 65 = .ok (.getfield 84, 3) := by decide +kernel
theorem d_Reader_readGuest_68 : decode b_Reader_readGuest 68 = .ok (.iload_n 2, 1) := by decide +kernel
theorem d_Reader_readGuest_69 : decode b_Reader_readGuest 69 = .ok (.bipush 6, 2) := by decide +kernel
theorem d_Reader_readGuest_71 : decode b_Reader_readGuest 71 = .ok (.imul, 1) := by decide +kernel
theorem d_Reader_readGuest_72 : decode b_Reader_readGuest 72 = .ok (.iload 4, 2) := by decide +kernel
theorem d_Reader_readGuest_74 : decode b_Reader_readGuest 74 = .ok (.iadd, 1) := by decide +kernel
theorem d_Reader_readGuest_75 : decode b_Reader_readGuest 75 = .ok (.iload 5, 2) := by decide +kernel
theorem d_Reader_readGuest_77 : decode b_Reader_readGuest 77 = .ok (.invokestatic 19, 3) := by decide +kernel
theorem d_Reader_readGuest_80 : decode b_Reader_readGuest 80 = .ok (.iinc 4 1, 3) := by decide +kernel
theorem d_Reader_readGuest_83 : decode b_Reader_readGuest 83 = .ok (.goto (-42), 3) := by decide +kernel
theorem d_Reader_readGuest_86 : decode b_Reader_readGuest 86 = .ok (.aload_n 1, 1) := by decide +kernel
theorem d_Reader_readGuest_87 : decode b_Reader_readGuest 87 = .ok (.dup, 1) := by decide +kernel
theorem d_Reader_readGuest_88 : decode b_Reader_readGuest 88 = .ok (.getfield 75, 3) := by decide +kernel
theorem d_Reader_readGuest_91 : decode b_Reader_readGuest 91 = .ok (.iconst 1, 1) := by decide +kernel
theorem d_Reader_readGuest_92 : decode b_Reader_readGuest 92 = .ok (.iadd, 1) := by decide +kernel
theorem d_Reader_readGuest_93 : decode b_Reader_readGuest 93 = .ok (.putfield 75, 3) := by decide +kernel
theorem d_Reader_readGuest_96 : decode b_Reader_readGuest 96 = .ok (.aload_n 0, 1) := by decide +kernel
theorem d_Reader_readGuest_97 : decode b_Reader_readGuest 97 = .ok (.bipush 59, 2) := by decide +kernel
theorem d_Reader_readGuest_99 : decode b_Reader_readGuest 99 = .ok (.invokevirtual 71, 3) := by decide +kernel
theorem d_Reader_readGuest_102 : decode b_Reader_readGuest 102 = .ok (.ireturn, 1) := by decide +kernel
theorem d_Reader_readMinutes_0 : decode b_Reader_readMinutes 0 = .ok (.aload_n 0, 1) := by decide +kernel
theorem d_Reader_readMinutes_1 : decode b_Reader_readMinutes 1 = .ok (.invokevirtual 61, 3) := by decide +kernel
theorem d_Reader_readMinutes_4 : decode b_Reader_readMinutes 4 = .ok (.istore_n 2, 1) := by decide +kernel
theorem d_Reader_readMinutes_5 : decode b_Reader_readMinutes 5 = .ok (.aload_n 1, 1) := by decide +kernel
theorem d_Reader_readMinutes_6 : decode b_Reader_readMinutes 6 = .ok (.iload_n 2, 1) := by decide +kernel
theorem d_Reader_readMinutes_7 : decode b_Reader_readMinutes 7 = .ok (.invokevirtual 87, 3) := by decide +kernel
theorem d_Reader_readMinutes_10 : decode b_Reader_readMinutes 10 = .ok (.ifCond .eq 12, 3) := by decide +kernel
theorem d_Reader_readMinutes_13 : decode b_Reader_readMinutes 13 = .ok (.aload_n 0, 1) := by decide +kernel
theorem d_Reader_readMinutes_14 : decode b_Reader_readMinutes 14 = .ok (.bipush 44, 2) := by decide +kernel
theorem d_Reader_readMinutes_16 : decode b_Reader_readMinutes 16 = .ok (.invokevirtual 71, 3) := by decide +kernel
theorem d_Reader_readMinutes_19 : decode b_Reader_readMinutes 19 = .ok (.ifCond .ne 5, 3) := by decide +kernel
theorem d_Reader_readMinutes_22 : decode b_Reader_readMinutes 22 = .ok (.iconst 0, 1) := by decide +kernel
theorem d_Reader_readMinutes_23 : decode b_Reader_readMinutes 23 = .ok (.ireturn, 1) := by decide +kernel
theorem d_Reader_readMinutes_24 : decode b_Reader_readMinutes 24 = .ok (.aload_n 0, 1) := by decide +kernel
theorem d_Reader_readMinutes_25 : decode b_Reader_readMinutes 25 = .ok (.invokevirtual 61, 3) := by decide +kernel
theorem d_Reader_readMinutes_28 : decode b_Reader_readMinutes 28 = .ok (.istore_n 3, 1) := by decide +kernel
theorem d_Reader_readMinutes_29 : decode b_Reader_readMinutes 29 = .ok (.aload_n 1, 1) := by decide +kernel
theorem d_Reader_readMinutes_30 : decode b_Reader_readMinutes 30 = .ok (.getfield 90, 3) := by decide +kernel
theorem d_Reader_readMinutes_33 : decode b_Reader_readMinutes 33 = .ok (.iload_n 2, 1) := by decide +kernel
theorem d_Reader_readMinutes_34 : decode b_Reader_readMinutes 34 = .ok (.iload_n 3, 1) := by decide +kernel
theorem d_Reader_readMinutes_35 : decode b_Reader_readMinutes 35 = .ok (.invokestatic 19, 3) := by decide +kernel
theorem d_Reader_readMinutes_38 : decode b_Reader_readMinutes 38 = .ok (.iload_n 3, 1) := by decide +kernel
theorem d_Reader_readMinutes_39 : decode b_Reader_readMinutes 39 = .ok (.iconst 1, 1) := by decide +kernel
theorem d_Reader_readMinutes_40 : decode b_Reader_readMinutes 40 = .ok (.bipush 60, 2) := by decide +kernel
theorem d_Reader_readMinutes_42 : decode b_Reader_readMinutes 42 = .ok (.invokestatic 67, 3) := by decide +kernel
theorem d_Reader_readMinutes_45 : decode b_Reader_readMinutes 45 = .ok (.ifCond .ne 16, 3) := by decide +kernel
theorem d_Reader_readMinutes_48 : decode b_Reader_readMinutes 48 = .ok (.aload_n 0, 1) := by decide +kernel
theorem d_Reader_readMinutes_49 : decode b_Reader_readMinutes 49 = .ok (.bipush 59, 2) := by decide +kernel
theorem d_Reader_readMinutes_51 : decode b_Reader_readMinutes 51 = .ok (.invokevirtual 71, 3) := by decide +kernel
theorem d_Reader_readMinutes_54 : decode b_Reader_readMinutes 54 = .ok (.ifCond .eq 7, 3) := by decide +kernel
theorem d_Reader_readMinutes_57 : decode b_Reader_readMinutes 57 = .ok (.iconst 1, 1) := by decide +kernel
theorem d_Reader_readMinutes_58 : decode b_Reader_readMinutes 58 = .ok (.goto 4, 3) := by decide +kernel
theorem d_Reader_readMinutes_61 : decode b_Reader_readMinutes 61 = .ok (.iconst 0, 1) := by decide +kernel
theorem d_Reader_readMinutes_62 : decode b_Reader_readMinutes 62 = .ok (.ireturn, 1) := by decide +kernel
theorem d_Reader_readVetoes_0 : decode b_Reader_readVetoes 0 = .ok (.aload_n 1, 1) := by decide +kernel
theorem d_Reader_readVetoes_1 : decode b_Reader_readVetoes 1 = .ok (.aload_n 0, 1) := by decide +kernel
theorem d_Reader_readVetoes_2 : decode b_Reader_readVetoes 2 = .ok (.invokevirtual 61, 3) := by decide +kernel
theorem d_Reader_readVetoes_5 : decode b_Reader_readVetoes 5 = .ok (.putfield 93, 3) := by decide +kernel
theorem d_Reader_readVetoes_8 : decode b_Reader_readVetoes 8 = .ok (.aload_n 1, 1) := by decide +kernel
theorem d_Reader_readVetoes_9 : decode b_Reader_readVetoes 9 = .ok (.getfield 93, 3) := by decide +kernel
theorem d_Reader_readVetoes_12 : decode b_Reader_readVetoes 12 = .ok (.iconst 0, 1) := by decide +kernel
theorem d_Reader_readVetoes_13 : decode b_Reader_readVetoes 13 = .ok (.iconst 3, 1) := by decide +kernel
theorem d_Reader_readVetoes_14 : decode b_Reader_readVetoes 14 = .ok (.invokestatic 67, 3) := by decide +kernel
theorem d_Reader_readVetoes_17 : decode b_Reader_readVetoes 17 = .ok (.ifCond .ne 16, 3) := by decide +kernel
theorem d_Reader_readVetoes_20 : decode b_Reader_readVetoes 20 = .ok (.aload_n 0, 1) := by decide +kernel
theorem d_Reader_readVetoes_21 : decode b_Reader_readVetoes 21 = .ok (.bipush 59, 2) := by decide +kernel
theorem d_Reader_readVetoes_23 : decode b_Reader_readVetoes 23 = .ok (.invokevirtual 71, 3) := by decide +kernel
theorem d_Reader_readVetoes_26 : decode b_Reader_readVetoes 26 = .ok (.ifCond .eq 7, 3) := by decide +kernel
theorem d_Reader_readVetoes_29 : decode b_Reader_readVetoes 29 = .ok (.iconst 1, 1) := by decide +kernel
theorem d_Reader_readVetoes_30 : decode b_Reader_readVetoes 30 = .ok (.goto 4, 3) := by decide +kernel
theorem d_Reader_readVetoes_33 : decode b_Reader_readVetoes 33 = .ok (.iconst 0, 1) := by decide +kernel
theorem d_Reader_readVetoes_34 : decode b_Reader_readVetoes 34 = .ok (.ireturn, 1) := by decide +kernel
theorem d_Reader_readShuts_0 : decode b_Reader_readShuts 0 = .ok (.aload_n 1, 1) := by decide +kernel
theorem d_Reader_readShuts_1 : decode b_Reader_readShuts 1 = .ok (.aload_n 0, 1) := by decide +kernel
theorem d_Reader_readShuts_2 : decode b_Reader_readShuts 2 = .ok (.invokevirtual 61, 3) := by decide +kernel
theorem d_Reader_readShuts_5 : decode b_Reader_readShuts 5 = .ok (.putfield 96, 3) := by decide +kernel
theorem d_Reader_readShuts_8 : decode b_Reader_readShuts 8 = .ok (.aload_n 1, 1) := by decide +kernel
theorem d_Reader_readShuts_9 : decode b_Reader_readShuts 9 = .ok (.getfield 96, 3) := by decide +kernel
theorem d_Reader_readShuts_12 : decode b_Reader_readShuts 12 = .ok (.iconst 1, 1) := by decide +kernel
theorem d_Reader_readShuts_13 : decode b_Reader_readShuts 13 = .ok (.bipush 99, 2) := by decide +kernel
theorem d_Reader_readShuts_15 : decode b_Reader_readShuts 15 = .ok (.invokestatic 67, 3) := by decide +kernel
theorem d_Reader_readShuts_18 : decode b_Reader_readShuts 18 = .ok (.ifCond .ne 16, 3) := by decide +kernel
theorem d_Reader_readShuts_21 : decode b_Reader_readShuts 21 = .ok (.aload_n 0, 1) := by decide +kernel
theorem d_Reader_readShuts_22 : decode b_Reader_readShuts 22 = .ok (.bipush 59, 2) := by decide +kernel
theorem d_Reader_readShuts_24 : decode b_Reader_readShuts 24 = .ok (.invokevirtual 71, 3) := by decide +kernel
theorem d_Reader_readShuts_27 : decode b_Reader_readShuts 27 = .ok (.ifCond .eq 7, 3) := by decide +kernel
theorem d_Reader_readShuts_30 : decode b_Reader_readShuts 30 = .ok (.iconst 1, 1) := by decide +kernel
theorem d_Reader_readShuts_31 : decode b_Reader_readShuts 31 = .ok (.goto 4, 3) := by decide +kernel
theorem d_Reader_readShuts_34 : decode b_Reader_readShuts 34 = .ok (.iconst 0, 1) := by decide +kernel
theorem d_Reader_readShuts_35 : decode b_Reader_readShuts 35 = .ok (.ireturn, 1) := by decide +kernel
theorem d_Reader_readHunger_0 : decode b_Reader_readHunger 0 = .ok (.aload_n 1, 1) := by decide +kernel
theorem d_Reader_readHunger_1 : decode b_Reader_readHunger 1 = .ok (.aload_n 0, 1) := by decide +kernel
theorem d_Reader_readHunger_2 : decode b_Reader_readHunger 2 = .ok (.invokevirtual 61, 3) := by decide +kernel
theorem d_Reader_readHunger_5 : decode b_Reader_readHunger 5 = .ok (.putfield 99, 3) := by decide +kernel
theorem d_Reader_readHunger_8 : decode b_Reader_readHunger 8 = .ok (.aload_n 1, 1) := by decide +kernel
theorem d_Reader_readHunger_9 : decode b_Reader_readHunger 9 = .ok (.getfield 99, 3) := by decide +kernel
theorem d_Reader_readHunger_12 : decode b_Reader_readHunger 12 = .ok (.iconst 1, 1) := by decide +kernel
theorem d_Reader_readHunger_13 : decode b_Reader_readHunger 13 = .ok (.bipush 60, 2) := by decide +kernel
theorem d_Reader_readHunger_15 : decode b_Reader_readHunger 15 = .ok (.invokestatic 67, 3) := by decide +kernel
theorem d_Reader_readHunger_18 : decode b_Reader_readHunger 18 = .ok (.ifCond .ne 16, 3) := by decide +kernel
theorem d_Reader_readHunger_21 : decode b_Reader_readHunger 21 = .ok (.aload_n 0, 1) := by decide +kernel
theorem d_Reader_readHunger_22 : decode b_Reader_readHunger 22 = .ok (.bipush 59, 2) := by decide +kernel
theorem d_Reader_readHunger_24 : decode b_Reader_readHunger 24 = .ok (.invokevirtual 71, 3) := by decide +kernel
theorem d_Reader_readHunger_27 : decode b_Reader_readHunger 27 = .ok (.ifCond .eq 7, 3) := by decide +kernel
theorem d_Reader_readHunger_30 : decode b_Reader_readHunger 30 = .ok (.iconst 1, 1) := by decide +kernel
theorem d_Reader_readHunger_31 : decode b_Reader_readHunger 31 = .ok (.goto 4, 3) := by decide +kernel
theorem d_Reader_readHunger_34 : decode b_Reader_readHunger 34 = .ok (.iconst 0, 1) := by decide +kernel
theorem d_Reader_readHunger_35 : decode b_Reader_readHunger 35 = .ok (.ireturn, 1) := by decide +kernel
theorem d_Reader_number_0 : decode b_Reader_number 0 = .ok (.aload_n 0, 1) := by decide +kernel
theorem d_Reader_number_1 : decode b_Reader_number 1 = .ok (.invokevirtual 78, 3) := by decide +kernel
theorem d_Reader_number_4 : decode b_Reader_number 4 = .ok (.istore_n 1, 1) := by decide +kernel
theorem d_Reader_number_5 : decode b_Reader_number 5 = .ok (.iload_n 1, 1) := by decide +kernel
theorem d_Reader_number_6 : decode b_Reader_number 6 = .ok (.iconst (-1), 1) := by decide +kernel
theorem d_Reader_number_7 : decode b_Reader_number 7 = .ok (.if_icmp .ne 5, 3) := by decide +kernel
theorem d_Reader_number_10 : decode b_Reader_number 10 = .ok (.iconst (-1), 1) := by decide +kernel
theorem d_Reader_number_11 : decode b_Reader_number 11 = .ok (.ireturn, 1) := by decide +kernel
theorem d_Reader_number_12 : decode b_Reader_number 12 = .ok (.aload_n 0, 1) := by decide +kernel
theorem d_Reader_number_13 : decode b_Reader_number 13 = .ok (.invokevirtual 78, 3) := by decide +kernel
theorem d_Reader_number_16 : decode b_Reader_number 16 = .ok (.istore_n 2, 1) := by decide +kernel
theorem d_Reader_number_17 : decode b_Reader_number 17 = .ok (.iload_n 2, 1) := by decide +kernel
theorem d_Reader_number_18 : decode b_Reader_number 18 = .ok (.iconst (-1), 1) := by decide +kernel
theorem d_Reader_number_19 : decode b_Reader_number 19 = .ok (.if_icmp .ne 7, 3) := by decide +kernel
theorem d_Reader_number_22 : decode b_Reader_number 22 = .ok (.iload_n 1, 1) := by decide +kernel
theorem d_Reader_number_23 : decode b_Reader_number 23 = .ok (.goto 9, 3) := by decide +kernel
theorem d_Reader_number_26 : decode b_Reader_number 26 = .ok (.bipush 10, 2) := by decide +kernel
theorem d_Reader_number_28 : decode b_Reader_number 28 = .ok (.iload_n 1, 1) := by decide +kernel
theorem d_Reader_number_29 : decode b_Reader_number 29 = .ok (.imul, 1) := by decide +kernel
theorem d_Reader_number_30 : decode b_Reader_number 30 = .ok (.iload_n 2, 1) := by decide +kernel
theorem d_Reader_number_31 : decode b_Reader_number 31 = .ok (.iadd, 1) := by decide +kernel
theorem d_Reader_number_32 : decode b_Reader_number 32 = .ok (.ireturn, 1) := by decide +kernel
theorem d_Reader_figure_0 : decode b_Reader_figure 0 = .ok (.aload_n 0, 1) := by decide +kernel
theorem d_Reader_figure_1 : decode b_Reader_figure 1 = .ok (.invokevirtual 39, 3) := by decide +kernel
theorem d_Reader_figure_4 : decode b_Reader_figure 4 = .ok (.istore_n 1, 1) := by decide +kernel
theorem d_Reader_figure_5 : decode b_Reader_figure 5 = .ok (.iload_n 1, 1) := by decide +kernel
theorem d_Reader_figure_6 : decode b_Reader_figure 6 = .ok (.bipush 48, 2) := by decide +kernel
theorem d_Reader_figure_8 : decode b_Reader_figure 8 = .ok (.bipush 57, 2) := by decide +kernel
theorem d_Reader_figure_10 : decode b_Reader_figure 10 = .ok (.invokestatic 67, 3) := by decide +kernel
theorem d_Reader_figure_13 : decode b_Reader_figure 13 = .ok (.ifCond .eq 5, 3) := by decide +kernel
theorem d_Reader_figure_16 : decode b_Reader_figure 16 = .ok (.iconst (-1), 1) := by decide +kernel
theorem d_Reader_figure_17 : decode b_Reader_figure 17 = .ok (.ireturn, 1) := by decide +kernel
theorem d_Reader_figure_18 : decode b_Reader_figure 18 = .ok (.aload_n 0, 1) := by decide +kernel
theorem d_Reader_figure_19 : decode b_Reader_figure 19 = .ok (.dup, 1) := by decide +kernel
theorem d_Reader_figure_20 : decode b_Reader_figure 20 = .ok (.getfield 28, 3) := by decide +kernel
theorem d_Reader_figure_23 : decode b_Reader_figure 23 = .ok (.iconst 1, 1) := by decide +kernel
theorem d_Reader_figure_24 : decode b_Reader_figure 24 = .ok (.iadd, 1) := by decide +kernel
theorem d_Reader_figure_25 : decode b_Reader_figure 25 = .ok (.putfield 28, 3) := by decide +kernel
theorem d_Reader_figure_28 : decode b_Reader_figure 28 = .ok (.iload_n 1, 1) := by decide +kernel
theorem d_Reader_figure_29 : decode b_Reader_figure 29 = .ok (.bipush 48, 2) := by decide +kernel
theorem d_Reader_figure_31 : decode b_Reader_figure 31 = .ok (.isub, 1) := by decide +kernel
theorem d_Reader_figure_32 : decode b_Reader_figure 32 = .ok (.ireturn, 1) := by decide +kernel
theorem d_Reader_skip_0 : decode b_Reader_skip 0 = .ok (.aload_n 0, 1) := by decide +kernel
theorem d_Reader_skip_1 : decode b_Reader_skip 1 = .ok (.invokevirtual 39, 3) := by decide +kernel
theorem d_Reader_skip_4 : decode b_Reader_skip 4 = .ok (.iload_n 1, 1) := by decide +kernel
theorem d_Reader_skip_5 : decode b_Reader_skip 5 = .ok (.if_icmp .eq 5, 3) := by decide +kernel
theorem d_Reader_skip_8 : decode b_Reader_skip 8 = .ok (.iconst 0, 1) := by decide +kernel
theorem d_Reader_skip_9 : decode b_Reader_skip 9 = .ok (.ireturn, 1) := by decide +kernel
theorem d_Reader_skip_10 : decode b_Reader_skip 10 = .ok (.aload_n 0, 1) := by decide +kernel
theorem d_Reader_skip_11 : decode b_Reader_skip 11 = .ok (.dup, 1) := by decide +kernel
theorem d_Reader_skip_12 : decode b_Reader_skip 12 = .ok (.getfield 28, 3) := by decide +kernel
theorem d_Reader_skip_15 : decode b_Reader_skip 15 = .ok (.iconst 1, 1) := by decide +kernel
theorem d_Reader_skip_16 : decode b_Reader_skip 16 = .ok (.iadd, 1) := by decide +kernel
theorem d_Reader_skip_17 : decode b_Reader_skip 17 = .ok (.putfield 28, 3) := by decide +kernel
theorem d_Reader_skip_20 : decode b_Reader_skip 20 = .ok (.iconst 1, 1) := by decide +kernel
theorem d_Reader_skip_21 : decode b_Reader_skip 21 = .ok (.ireturn, 1) := by decide +kernel
theorem d_Reader_peek_0 : decode b_Reader_peek 0 = .ok (.aload_n 0, 1) := by decide +kernel
theorem d_Reader_peek_1 : decode b_Reader_peek 1 = .ok (.getfield 28, 3) := by decide +kernel
theorem d_Reader_peek_4 : decode b_Reader_peek 4 = .ok (.ifCond .lt 38, 3) := by decide +kernel
theorem d_Reader_peek_7 : decode b_Reader_peek 7 = .ok (.aload_n 0, 1) := by decide +kernel
theorem d_Reader_peek_8 : decode b_Reader_peek 8 = .ok (.getfield 28, 3) := by decide +kernel
theorem d_Reader_peek_11 : decode b_Reader_peek 11 = .ok (.aload_n 0, 1) := by decide +kernel
theorem d_Reader_peek_12 : decode b_Reader_peek 12 = .ok (.getfield 15, 3) := by decide +kernel
theorem d_Reader_peek_15 : decode b_Reader_peek 15 = .ok (.if_icmp .ge 27, 3) := by decide +kernel
theorem d_Reader_peek_18 : decode b_Reader_peek 18 = .ok (.aload_n 0, 1) := by decide +kernel
theorem d_Reader_peek_19 : decode b_Reader_peek 19 = .ok (.getfield 28, 3) := by decide +kernel
theorem d_Reader_peek_22 : decode b_Reader_peek 22 = .ok (.aload_n 0, 1) := by decide +kernel
theorem d_Reader_peek_23 : decode b_Reader_peek 23 = .ok (.getfield 9, 3) := by decide +kernel
theorem d_Reader_peek_26 : decode b_Reader_peek 26 = .ok (.arraylength, 1) := by decide +kernel
theorem d_Reader_peek_27 : decode b_Reader_peek 27 = .ok (.if_icmp .ge 15, 3) := by decide +kernel
theorem d_Reader_peek_30 : decode b_Reader_peek 30 = .ok (.aload_n 0, 1) := by decide +kernel
theorem d_Reader_peek_31 : decode b_Reader_peek 31 = .ok (.getfield 9, 3) := by decide +kernel
theorem d_Reader_peek_34 : decode b_Reader_peek 34 = .ok (.aload_n 0, 1) := by decide +kernel
theorem d_Reader_peek_35 : decode b_Reader_peek 35 = .ok (.getfield 28, 3) := by decide +kernel
theorem d_Reader_peek_38 : decode b_Reader_peek 38 = .ok (.iaload, 1) := by decide +kernel
theorem d_Reader_peek_39 : decode b_Reader_peek 39 = .ok (.goto 4, 3) := by decide +kernel
theorem d_Reader_peek_42 : decode b_Reader_peek 42 = .ok (.iconst (-1), 1) := by decide +kernel
theorem d_Reader_peek_43 : decode b_Reader_peek 43 = .ok (.ireturn, 1) := by decide +kernel
theorem d_Table_init_0 : decode b_Table_init 0 = .ok (.aload_n 0, 1) := by decide +kernel
theorem d_Table_init_1 : decode b_Table_init 1 = .ok (.invokespecial 3, 3) := by decide +kernel
theorem d_Table_init_4 : decode b_Table_init 4 = .ok (.aload_n 0, 1) := by decide +kernel
theorem d_Table_init_5 : decode b_Table_init 5 = .ok (.iconst (-1), 1) := by decide +kernel
theorem d_Table_init_6 : decode b_Table_init 6 = .ok (.putfield 9, 3) := by decide +kernel
theorem d_Table_init_9 : decode b_Table_init 9 = .ok (.return_, 1) := by decide +kernel
theorem d_Table_clear_0 : decode b_Table_clear 0 = .ok (.aload_n 0, 1) := by decide +kernel
theorem d_Table_clear_1 : decode b_Table_clear 1 = .ok (.iconst 0, 1) := by decide +kernel
theorem d_Table_clear_2 : decode b_Table_clear 2 = .ok (.putfield 15, 3) := by decide +kernel
theorem d_Table_clear_5 : decode b_Table_clear 5 = .ok (.aload_n 0, 1) := by decide +kernel
theorem d_Table_clear_6 : decode b_Table_clear 6 = .ok (.iconst 0, 1) := by decide +kernel
theorem d_Table_clear_7 : decode b_Table_clear 7 = .ok (.putfield 18, 3) := by decide +kernel
theorem d_Table_clear_10 : decode b_Table_clear 10 = .ok (.aload_n 0, 1) := by decide +kernel
theorem d_Table_clear_11 : decode b_Table_clear 11 = .ok (.iconst (-1), 1) := by decide +kernel
theorem d_Table_clear_12 : decode b_Table_clear 12 = .ok (.putfield 9, 3) := by decide +kernel
theorem d_Table_clear_15 : decode b_Table_clear 15 = .ok (.aload_n 0, 1) := by decide +kernel
theorem d_Table_clear_16 : decode b_Table_clear 16 = .ok (.iconst 0, 1) := by decide +kernel
theorem d_Table_clear_17 : decode b_Table_clear 17 = .ok (.putfield 21, 3) := by decide +kernel
theorem d_Table_clear_20 : decode b_Table_clear 20 = .ok (.return_, 1) := by decide +kernel
theorem d_Table_copyFrom_0 : decode b_Table_copyFrom 0 = .ok (.aload_n 0, 1) := by decide +kernel
theorem d_Table_copyFrom_1 : decode b_Table_copyFrom 1 = .ok (.aload_n 1, 1) := by decide +kernel
theorem d_Table_copyFrom_2 : decode b_Table_copyFrom 2 = .ok (.getfield 15, 3) := by decide +kernel
theorem d_Table_copyFrom_5 : decode b_Table_copyFrom 5 = .ok (.putfield 15, 3) := by decide +kernel
theorem d_Table_copyFrom_8 : decode b_Table_copyFrom 8 = .ok (.aload_n 0, 1) := by decide +kernel
theorem d_Table_copyFrom_9 : decode b_Table_copyFrom 9 = .ok (.aload_n 1, 1) := by decide +kernel
theorem d_Table_copyFrom_10 : decode b_Table_copyFrom 10 = .ok (.getfield 18, 3) := by decide +kernel
theorem d_Table_copyFrom_13 : decode b_Table_copyFrom 13 = .ok (.putfield 18, 3) := by decide +kernel
theorem d_Table_copyFrom_16 : decode b_Table_copyFrom 16 = .ok (.aload_n 0, 1) := by decide +kernel
theorem d_Table_copyFrom_17 : decode b_Table_copyFrom 17 = .ok (.aload_n 1, 1) := by decide +kernel
theorem d_Table_copyFrom_18 : decode b_Table_copyFrom 18 = .ok (.getfield 9, 3) := by decide +kernel
theorem d_Table_copyFrom_21 : decode b_Table_copyFrom 21 = .ok (.putfield 9, 3) := by decide +kernel
theorem d_Table_copyFrom_24 : decode b_Table_copyFrom 24 = .ok (.aload_n 0, 1) := by decide +kernel
theorem d_Table_copyFrom_25 : decode b_Table_copyFrom 25 = .ok (.aload_n 1, 1) := by decide +kernel
theorem d_Table_copyFrom_26 : decode b_Table_copyFrom 26 = .ok (.getfield 21, 3) := by decide +kernel
theorem d_Table_copyFrom_29 : decode b_Table_copyFrom 29 = .ok (.putfield 21, 3) := by decide +kernel
theorem d_Table_copyFrom_32 : decode b_Table_copyFrom 32 = .ok (.return_, 1) := by decide +kernel
theorem d_Table_isOrdered_0 : decode b_Table_isOrdered 0 = .ok (.aload_n 0, 1) := by decide +kernel
theorem d_Table_isOrdered_1 : decode b_Table_isOrdered 1 = .ok (.getfield 9, 3) := by decide +kernel
theorem d_Table_isOrdered_4 : decode b_Table_isOrdered 4 = .ok (.iconst (-1), 1) := by decide +kernel
theorem d_Table_isOrdered_5 : decode b_Table_isOrdered 5 = .ok (.if_icmp .eq 7, 3) := by decide +kernel
theorem d_Table_isOrdered_8 : decode b_Table_isOrdered 8 = .ok (.iconst 1, 1) := by decide +kernel
theorem d_Table_isOrdered_9 : decode b_Table_isOrdered 9 = .ok (.goto 4, 3) := by decide +kernel
theorem d_Table_isOrdered_12 : decode b_Table_isOrdered 12 = .ok (.iconst 0, 1) := by decide +kernel
theorem d_Table_isOrdered_13 : decode b_Table_isOrdered 13 = .ok (.ireturn, 1) := by decide +kernel
theorem d_Table_isVetoed_0 : decode b_Table_isVetoed 0 = .ok (.aload_n 0, 1) := by decide +kernel
theorem d_Table_isVetoed_1 : decode b_Table_isVetoed 1 = .ok (.getfield 18, 3) := by decide +kernel
theorem d_Table_isVetoed_4 : decode b_Table_isVetoed 4 = .ok (.iload_n 1, 1) := by decide +kernel
theorem d_Table_isVetoed_5 : decode b_Table_isVetoed 5 = .ok (.ishr, 1) := by decide +kernel
theorem d_Table_isVetoed_6 : decode b_Table_isVetoed 6 = .ok (.iconst 1, 1) := by decide +kernel
theorem d_Table_isVetoed_7 : decode b_Table_isVetoed 7 = .ok (.iand, 1) := by decide +kernel
theorem d_Table_isVetoed_8 : decode b_Table_isVetoed 8 = .ok (.iconst 1, 1) := by decide +kernel
theorem d_Table_isVetoed_9 : decode b_Table_isVetoed 9 = .ok (.if_icmp .ne 7, 3) := by decide +kernel
theorem d_Table_isVetoed_12 : decode b_Table_isVetoed 12 = .ok (.iconst 1, 1) := by decide +kernel
theorem d_Table_isVetoed_13 : decode b_Table_isVetoed 13 = .ok (.goto 4, 3) := by decide +kernel
theorem d_Table_isVetoed_16 : decode b_Table_isVetoed 16 = .ok (.iconst 0, 1) := by decide +kernel
theorem d_Table_isVetoed_17 : decode b_Table_isVetoed 17 = .ok (.ireturn, 1) := by decide +kernel
theorem d_Table_spentBy_0 : decode b_Table_spentBy 0 = .ok (.aload_n 0, 1) := by decide +kernel
theorem d_Table_spentBy_1 : decode b_Table_spentBy 1 = .ok (.getfield 21, 3) := by decide +kernel
theorem d_Table_spentBy_4 : decode b_Table_spentBy 4 = .ok (.iconst 2, 1) := by decide +kernel
theorem d_Table_spentBy_5 : decode b_Table_spentBy 5 = .ok (.iload_n 1, 1) := by decide +kernel
theorem d_Table_spentBy_6 : decode b_Table_spentBy 6 = .ok (.imul, 1) := by decide +kernel
theorem d_Table_spentBy_7 : decode b_Table_spentBy 7 = .ok (.ishr, 1) := by decide +kernel
theorem d_Table_spentBy_8 : decode b_Table_spentBy 8 = .ok (.iconst 3, 1) := by decide +kernel
theorem d_Table_spentBy_9 : decode b_Table_spentBy 9 = .ok (.iand, 1) := by decide +kernel
theorem d_Table_spentBy_10 : decode b_Table_spentBy 10 = .ok (.ireturn, 1) := by decide +kernel
theorem d_Table_strike_0 : decode b_Table_strike 0 = .ok (.aload_n 0, 1) := by decide +kernel
theorem d_Table_strike_1 : decode b_Table_strike 1 = .ok (.dup, 1) := by decide +kernel
theorem d_Table_strike_2 : decode b_Table_strike 2 = .ok (.getfield 18, 3) := by decide +kernel
theorem d_Table_strike_5 : decode b_Table_strike 5 = .ok (.iconst 1, 1) := by decide +kernel
theorem d_Table_strike_6 : decode b_Table_strike 6 = .ok (.iload_n 2, 1) := by decide +kernel
theorem d_Table_strike_7 : decode b_Table_strike 7 = .ok (.ishl, 1) := by decide +kernel
theorem d_Table_strike_8 : decode b_Table_strike 8 = .ok (.ior, 1) := by decide +kernel
theorem d_Table_strike_9 : decode b_Table_strike 9 = .ok (.putfield 18, 3) := by decide +kernel
theorem d_Table_strike_12 : decode b_Table_strike 12 = .ok (.aload_n 0, 1) := by decide +kernel
theorem d_Table_strike_13 : decode b_Table_strike 13 = .ok (.dup, 1) := by decide +kernel
theorem d_Table_strike_14 : decode b_Table_strike 14 = .ok (.getfield 21, 3) := by decide +kernel
theorem d_Table_strike_17 : decode b_Table_strike 17 = .ok (.iconst 1, 1) := by decide +kernel
theorem d_Table_strike_18 : decode b_Table_strike 18 = .ok (.iconst 2, 1) := by decide +kernel
theorem d_Table_strike_19 : decode b_Table_strike 19 = .ok (.iload_n 1, 1) := by decide +kernel
theorem d_Table_strike_20 : decode b_Table_strike 20 = .ok (.imul, 1) := by decide +kernel
theorem d_Table_strike_21 : decode b_Table_strike 21 = .ok (.ishl, 1) := by decide +kernel
theorem d_Table_strike_22 : decode b_Table_strike 22 = .ok (.iadd, 1) := by decide +kernel
theorem d_Table_strike_23 : decode b_Table_strike 23 = .ok (.putfield 21, 3) := by decide +kernel
theorem d_Table_strike_26 : decode b_Table_strike 26 = .ok (.return_, 1) := by decide +kernel
theorem d_Nm_init_0 : decode b_Nm_init 0 = .ok (.aload_n 0, 1) := by decide +kernel
theorem d_Nm_init_1 : decode b_Nm_init 1 = .ok (.invokespecial 1, 3) := by decide +kernel
theorem d_Nm_init_4 : decode b_Nm_init 4 = .ok (.aload_n 0, 1) := by decide +kernel
theorem d_Nm_init_5 : decode b_Nm_init 5 = .ok (.new 7, 3) := by decide +kernel
theorem d_Nm_init_8 : decode b_Nm_init 8 = .ok (.dup, 1) := by decide +kernel
theorem d_Nm_init_9 : decode b_Nm_init 9 = .ok (.invokespecial 9, 3) := by decide +kernel
theorem d_Nm_init_12 : decode b_Nm_init 12 = .ok (.putfield 10, 3) := by decide +kernel
theorem d_Nm_init_15 : decode b_Nm_init 15 = .ok (.aload_n 0, 1) := by decide +kernel
theorem d_Nm_init_16 : decode b_Nm_init 16 = .ok (.new 16, 3) := by decide +kernel
theorem d_Nm_init_19 : decode b_Nm_init 19 = .ok (.dup, 1) := by decide +kernel
theorem d_Nm_init_20 : decode b_Nm_init 20 = .ok (.invokespecial 18, 3) := by decide +kernel
theorem d_Nm_init_23 : decode b_Nm_init 23 = .ok (.putfield 19, 3) := by decide +kernel
theorem d_Nm_init_26 : decode b_Nm_init 26 = .ok (.aload_n 0, 1) := by decide +kernel
theorem d_Nm_init_27 : decode b_Nm_init 27 = .ok (.new 16, 3) := by decide +kernel
theorem d_Nm_init_30 : decode b_Nm_init 30 = .ok (.dup, 1) := by decide +kernel
theorem d_Nm_init_31 : decode b_Nm_init 31 = .ok (.invokespecial 18, 3) := by decide +kernel
theorem d_Nm_init_34 : decode b_Nm_init 34 = .ok (.putfield 23, 3) := by decide +kernel
theorem d_Nm_init_37 : decode b_Nm_init 37 = .ok (.aload_n 0, 1) := by decide +kernel
theorem d_Nm_init_38 : decode b_Nm_init 38 = .ok (.new 26, 3) := by decide +kernel
theorem d_Nm_init_41 : decode b_Nm_init 41 = .ok (.dup, 1) := by decide +kernel
theorem d_Nm_init_42 : decode b_Nm_init 42 = .ok (.bipush 8, 2) := by decide +kernel
theorem d_Nm_init_44 : decode b_Nm_init 44 = .ok (.invokespecial 28, 3) := by decide +kernel
theorem d_Nm_init_47 : decode b_Nm_init 47 = .ok (.putfield 31, 3) := by decide +kernel
theorem d_Nm_init_50 : decode b_Nm_init 50 = .ok (.aload_n 0, 1) := by decide +kernel
theorem d_Nm_init_51 : decode b_Nm_init 51 = .ok (.new 26, 3) := by decide +kernel
theorem d_Nm_init_54 : decode b_Nm_init 54 = .ok (.dup, 1) := by decide +kernel
theorem d_Nm_init_55 : decode b_Nm_init 55 = .ok (.iconst 2, 1) := by decide +kernel
theorem d_Nm_init_56 : decode b_Nm_init 56 = .ok (.invokespecial 28, 3) := by decide +kernel
theorem d_Nm_init_59 : decode b_Nm_init 59 = .ok (.putfield 35, 3) := by decide +kernel
theorem d_Nm_init_62 : decode b_Nm_init 62 = .ok (.aload_n 0, 1) := by decide +kernel
theorem d_Nm_init_63 : decode b_Nm_init 63 = .ok (.new 38, 3) := by decide +kernel
theorem d_Nm_init_66 : decode b_Nm_init 66 = .ok (.dup, 1) := by decide +kernel
theorem d_Nm_init_67 : decode b_Nm_init 67 = .ok (.invokespecial 40, 3) := by decide +kernel
theorem d_Nm_init_70 : decode b_Nm_init 70 = .ok (.putfield 41, 3) := by decide +kernel
theorem d_Nm_init_73 : decode b_Nm_init 73 = .ok (.aload_n 0, 1) := by decide +kernel
theorem d_Nm_init_74 : decode b_Nm_init 74 = .ok (.new 45, 3) := by decide +kernel
theorem d_Nm_init_77 : decode b_Nm_init 77 = .ok (.dup, 1) := by decide +kernel
theorem d_Nm_init_78 : decode b_Nm_init 78 = .ok (.invokespecial 47, 3) := by decide +kernel
theorem d_Nm_init_81 : decode b_Nm_init 81 = .ok (.putfield 48, 3) := by decide +kernel
theorem d_Nm_init_84 : decode b_Nm_init 84 = .ok (.aload_n 0, 1) := by decide +kernel
theorem d_Nm_init_85 : decode b_Nm_init 85 = .ok (.new 45, 3) := by decide +kernel
theorem d_Nm_init_88 : decode b_Nm_init 88 = .ok (.dup, 1) := by decide +kernel
theorem d_Nm_init_89 : decode b_Nm_init 89 = .ok (.invokespecial 47, 3) := by decide +kernel
theorem d_Nm_init_92 : decode b_Nm_init 92 = .ok (.putfield 52, 3) := by decide +kernel
theorem d_Nm_init_95 : decode b_Nm_init 95 = .ok (.aload_n 0, 1) := by decide +kernel
theorem d_Nm_init_96 : decode b_Nm_init 96 = .ok (.new 55, 3) := by decide +kernel
theorem d_Nm_init_99 : decode b_Nm_init 99 = .ok (.dup, 1) := by decide +kernel
theorem d_Nm_init_100 : decode b_Nm_init 100 = .ok (.aload_n 0, 1) := by decide +kernel
theorem d_Nm_init_101 : decode b_Nm_init 101 = .ok (.getfield 48, 3) := by decide +kernel
theorem d_Nm_init_104 : decode b_Nm_init 104 = .ok (.invokespecial 57, 3) := by decide +kernel
theorem d_Nm_init_107 : decode b_Nm_init 107 = .ok (.putfield 60, 3) := by decide +kernel
theorem d_Nm_init_110 : decode b_Nm_init 110 = .ok (.iconst 0, 1) := by decide +kernel
theorem d_Nm_init_111 : decode b_Nm_init 111 = .ok (.istore_n 1, 1) := by decide +kernel
theorem d_Nm_init_112 : decode b_Nm_init 112 = .ok (.iload_n 1, 1) := by decide +kernel
theorem d_Nm_init_113 : decode b_Nm_init 113 = .ok (.ldc 64, 2) := by decide +kernel
theorem d_Nm_init_115 : decode b_Nm_init 115 = .ok (.invokevirtual 66, 3) := by decide +kernel
theorem d_Nm_init_118 : decode b_Nm_init 118 = .ok (.if_icmp .ge 22, 3) := by decide +kernel
theorem d_Nm_init_121 : decode b_Nm_init 121 = .ok (.aload_n 0, 1) := by decide +kernel
theorem d_Nm_init_122 : decode b_Nm_init 122 = .ok (.getfield 10, 3) := by decide +kernel
theorem d_Nm_init_125 : decode b_Nm_init 125 = .ok (.ldc 64, 2) := by decide +kernel
theorem d_Nm_init_127 : decode b_Nm_init 127 = .ok (.iload_n 1, 1) := by decide +kernel
theorem d_Nm_init_128 : decode b_Nm_init 128 = .ok (.invokevirtual 72, 3) := by decide +kernel
theorem d_Nm_init_131 : decode b_Nm_init 131 = .ok (.invokevirtual 76, 3) := by decide +kernel
theorem d_Nm_init_134 : decode b_Nm_init 134 = .ok (.iinc 1 1, 3) := by decide +kernel
theorem d_Nm_init_137 : decode b_Nm_init 137 = .ok (.goto (-25), 3) := by decide +kernel
theorem d_Nm_init_140 : decode b_Nm_init 140 = .ok (.aload_n 0, 1) := by decide +kernel
theorem d_Nm_init_141 : decode b_Nm_init 141 = .ok (.getfield 10, 3) := by decide +kernel
theorem d_Nm_init_144 : decode b_Nm_init 144 = .ok (.aload_n 0, 1) := by decide +kernel
theorem d_Nm_init_145 : decode b_Nm_init 145 = .ok (.getfield 48, 3) := by decide +kernel
theorem d_Nm_init_148 : decode b_Nm_init 148 = .ok (.invokevirtual 79, 3) := by decide +kernel
theorem d_Nm_init_151 : decode b_Nm_init 151 = .ok (.pop, 1) := by decide +kernel
theorem d_Nm_init_152 : decode b_Nm_init 152 = .ok (.aload_n 0, 1) := by decide +kernel
theorem d_Nm_init_153 : decode b_Nm_init 153 = .ok (.getfield 10, 3) := by decide +kernel
theorem d_Nm_init_156 : decode b_Nm_init 156 = .ok (.iconst 0, 1) := by decide +kernel
theorem d_Nm_init_157 : decode b_Nm_init 157 = .ok (.putfield 83, 3) := by decide +kernel
theorem d_Nm_init_160 : decode b_Nm_init 160 = .ok (.return_, 1) := by decide +kernel
theorem d_Nm_write_0 : decode b_Nm_write 0 = .ok (.iload_n 1, 1) := by decide +kernel
theorem d_Nm_write_1 : decode b_Nm_write 1 = .ok (.bipush 32, 2) := by decide +kernel
theorem d_Nm_write_3 : decode b_Nm_write 3 = .ok (.bipush 126, 2) := by decide +kernel
theorem d_Nm_write_5 : decode b_Nm_write 5 = .ok (.invokestatic 86, 3) := by decide +kernel
theorem d_Nm_write_8 : decode b_Nm_write 8 = .ok (.ifCond .eq 5, 3) := by decide +kernel
theorem d_Nm_write_11 : decode b_Nm_write 11 = .ok (.iconst (-1), 1) := by decide +kernel
theorem d_Nm_write_12 : decode b_Nm_write 12 = .ok (.ireturn, 1) := by decide +kernel
theorem d_Nm_write_13 : decode b_Nm_write 13 = .ok (.aload_n 0, 1) := by decide +kernel
theorem d_Nm_write_14 : decode b_Nm_write 14 = .ok (.getfield 10, 3) := by decide +kernel
theorem d_Nm_write_17 : decode b_Nm_write 17 = .ok (.getfield 83, 3) := by decide +kernel
theorem d_Nm_write_20 : decode b_Nm_write 20 = .ok (.sipush 200, 3) := by decide +kernel
theorem d_Nm_write_23 : decode b_Nm_write 23 = .ok (.if_icmp .lt 6, 3) := by decide +kernel
theorem d_Nm_write_26 : decode b_Nm_write 26 = .ok (.bipush (-3), 2) := by decide +kernel
theorem d_Nm_write_28 : decode b_Nm_write 28 = .ok (.ireturn, 1) := by decide +kernel
theorem d_Nm_write_29 : decode b_Nm_write 29 = .ok (.aload_n 0, 1) := by decide +kernel
theorem d_Nm_write_30 : decode b_Nm_write 30 = .ok (.getfield 10, 3) := by decide +kernel
theorem d_Nm_write_33 : decode b_Nm_write 33 = .ok (.iload_n 1, 1) := by decide +kernel
theorem d_Nm_write_34 : decode b_Nm_write 34 = .ok (.invokevirtual 76, 3) := by decide +kernel
theorem d_Nm_write_37 : decode b_Nm_write 37 = .ok (.aload_n 0, 1) := by decide +kernel
theorem d_Nm_write_38 : decode b_Nm_write 38 = .ok (.getfield 10, 3) := by decide +kernel
theorem d_Nm_write_41 : decode b_Nm_write 41 = .ok (.getfield 83, 3) := by decide +kernel
theorem d_Nm_write_44 : decode b_Nm_write 44 = .ok (.ireturn, 1) := by decide +kernel
theorem d_Nm_wipe_0 : decode b_Nm_wipe 0 = .ok (.aload_n 0, 1) := by decide +kernel
theorem d_Nm_wipe_1 : decode b_Nm_wipe 1 = .ok (.getfield 10, 3) := by decide +kernel
theorem d_Nm_wipe_4 : decode b_Nm_wipe 4 = .ok (.getfield 83, 3) := by decide +kernel
theorem d_Nm_wipe_7 : decode b_Nm_wipe 7 = .ok (.istore_n 1, 1) := by decide +kernel
theorem d_Nm_wipe_8 : decode b_Nm_wipe 8 = .ok (.aload_n 0, 1) := by decide +kernel
theorem d_Nm_wipe_9 : decode b_Nm_wipe 9 = .ok (.getfield 10, 3) := by decide +kernel
theorem d_Nm_wipe_12 : decode b_Nm_wipe 12 = .ok (.iconst 0, 1) := by decide +kernel
theorem d_Nm_wipe_13 : decode b_Nm_wipe 13 = .ok (.putfield 83, 3) := by decide +kernel
theorem d_Nm_wipe_16 : decode b_Nm_wipe 16 = .ok (.iload_n 1, 1) := by decide +kernel
theorem d_Nm_wipe_17 : decode b_Nm_wipe 17 = .ok (.ireturn, 1) := by decide +kernel
theorem d_Nm_fault_0 : decode b_Nm_fault 0 = .ok (.aload_n 0, 1) := by decide +kernel
theorem d_Nm_fault_1 : decode b_Nm_fault 1 = .ok (.getfield 10, 3) := by decide +kernel
theorem d_Nm_fault_4 : decode b_Nm_fault 4 = .ok (.aload_n 0, 1) := by decide +kernel
theorem d_Nm_fault_5 : decode b_Nm_fault 5 = .ok (.getfield 52, 3) := by decide +kernel
theorem d_Nm_fault_8 : decode b_Nm_fault 8 = .ok (.invokevirtual 79, 3) := by decide +kernel
theorem d_Nm_fault_11 : decode b_Nm_fault 11 = .ok (.ireturn, 1) := by decide +kernel
theorem d_Nm_lay_0 : decode b_Nm_lay 0 = .ok (.aload_n 0, 1) := by decide +kernel
theorem d_Nm_lay_1 : decode b_Nm_lay 1 = .ok (.getfield 10, 3) := by decide +kernel
theorem d_Nm_lay_4 : decode b_Nm_lay 4 = .ok (.aload_n 0, 1) := by decide +kernel
theorem d_Nm_lay_5 : decode b_Nm_lay 5 = .ok (.getfield 52, 3) := by decide +kernel
theorem d_Nm_lay_8 : decode b_Nm_lay 8 = .ok (.invokevirtual 79, 3) := by decide +kernel
theorem d_Nm_lay_11 : decode b_Nm_lay 11 = .ok (.bipush (-4), 2) := by decide +kernel
theorem d_Nm_lay_13 : decode b_Nm_lay 13 = .ok (.if_icmp .ne 13, 3) := by decide +kernel
theorem d_Nm_lay_16 : decode b_Nm_lay 16 = .ok (.aload_n 0, 1) := by decide +kernel
theorem d_Nm_lay_17 : decode b_Nm_lay 17 = .ok (.getfield 52, 3) := by decide +kernel
theorem d_Nm_lay_20 : decode b_Nm_lay 20 = .ok (.getfield 90, 3) := by decide +kernel
theorem d_Nm_lay_23 : decode b_Nm_lay 23 = .ok (.ifCond .ne 6, 3) := by decide +kernel
theorem d_Nm_lay_26 : decode b_Nm_lay 26 = .ok (.bipush (-2), 2) := by decide +kernel
theorem d_Nm_lay_28 : decode b_Nm_lay 28 = .ok (.ireturn, 1) := by decide +kernel
theorem d_Nm_lay_29 : decode b_Nm_lay 29 = .ok (.aload_n 0, 1) := by decide +kernel
theorem d_Nm_lay_30 : decode b_Nm_lay 30 = .ok (.getfield 48, 3) := by decide +kernel
theorem d_Nm_lay_33 : decode b_Nm_lay 33 = .ok (.astore_n 1, 1) := by decide +kernel
theorem d_Nm_lay_34 : decode b_Nm_lay 34 = .ok (.aload_n 0, 1) := by decide +kernel
theorem d_Nm_lay_35 : decode b_Nm_lay 35 = .ok (.aload_n 0, 1) := by decide +kernel
theorem d_Nm_lay_36 : decode b_Nm_lay 36 = .ok (.getfield 52, 3) := by decide +kernel
theorem d_Nm_lay_39 : decode b_Nm_lay 39 = .ok (.putfield 48, 3) := by decide +kernel
theorem d_Nm_lay_42 : decode b_Nm_lay 42 = .ok (.aload_n 0, 1) := by decide +kernel
theorem d_Nm_lay_43 : decode b_Nm_lay 43 = .ok (.aload_n 1, 1) := by decide +kernel
theorem d_Nm_lay_44 : decode b_Nm_lay 44 = .ok (.putfield 52, 3) := by decide +kernel
theorem d_Nm_lay_47 : decode b_Nm_lay 47 = .ok (.aload_n 0, 1) := by decide +kernel
theorem d_Nm_lay_48 : decode b_Nm_lay 48 = .ok (.getfield 19, 3) := by decide +kernel
theorem d_Nm_lay_51 : decode b_Nm_lay 51 = .ok (.invokevirtual 93, 3) := by decide +kernel
theorem d_Nm_lay_54 : decode b_Nm_lay 54 = .ok (.aload_n 0, 1) := by decide +kernel
theorem d_Nm_lay_55 : decode b_Nm_lay 55 = .ok (.getfield 31, 3) := by decide +kernel
theorem d_Nm_lay_58 : decode b_Nm_lay 58 = .ok (.iconst 0, 1) := by decide +kernel
theorem d_Nm_lay_59 : decode b_Nm_lay 59 = .ok (.putfield 96, 3) := by decide +kernel
theorem d_Nm_lay_62 : decode b_Nm_lay 62 = .ok (.aload_n 0, 1) := by decide +kernel
theorem d_Nm_lay_63 : decode b_Nm_lay 63 = .ok (.getfield 35, 3) := by decide +kernel
theorem d_Nm_lay_66 : decode b_Nm_lay 66 = .ok (.iconst 0, 1) := by decide +kernel
theorem d_Nm_lay_67 : decode b_Nm_lay 67 = .ok (.putfield 96, 3) := by decide +kernel
theorem d_Nm_lay_70 : decode b_Nm_lay 70 = .ok (.aload_n 0, 1) := by decide +kernel
theorem d_Nm_lay_71 : decode b_Nm_lay 71 = .ok (.getfield 41, 3) := by decide +kernel
theorem d_Nm_lay_74 : decode b_Nm_lay 74 = .ok (.iconst 0, 1) := by decide +kernel
theorem d_Nm_lay_75 : decode b_Nm_lay 75 = .ok (.putfield 99, 3) := by decide +kernel
theorem d_Nm_lay_78 : decode b_Nm_lay 78 = .ok (.aload_n 0, 1) := by decide +kernel
theorem d_Nm_lay_79 : decode b_Nm_lay 79 = .ok (.getfield 48, 3) := by decide +kernel
theorem d_Nm_lay_82 : decode b_Nm_lay 82 = .ok (.getfield 90, 3) := by decide +kernel
theorem d_Nm_lay_85 : decode b_Nm_lay 85 = .ok (.ireturn, 1) := by decide +kernel
theorem d_Nm_guest_0 : decode b_Nm_guest 0 = .ok (.aload_n 0, 1) := by decide +kernel
theorem d_Nm_guest_1 : decode b_Nm_guest 1 = .ok (.getfield 48, 3) := by decide +kernel
theorem d_Nm_guest_4 : decode b_Nm_guest 4 = .ok (.iload_n 1, 1) := by decide +kernel
theorem d_Nm_guest_5 : decode b_Nm_guest 5 = .ok (.invokevirtual 100, 3) := by decide +kernel
theorem d_Nm_guest_8 : decode b_Nm_guest 8 = .ok (.ifCond .ne 5, 3) := by decide +kernel
theorem d_Nm_guest_11 : decode b_Nm_guest 11 = .ok (.iconst (-1), 1) := by decide +kernel
theorem d_Nm_guest_12 : decode b_Nm_guest 12 = .ok (.ireturn, 1) := by decide +kernel
theorem d_Nm_guest_13 : decode b_Nm_guest 13 = .ok (.iload_n 2, 1) := by decide +kernel
theorem d_Nm_guest_14 : decode b_Nm_guest 14 = .ok (.tableswitch 67 0 3 #[30, 39, 49, 58], 30) := by decide +kernel
theorem d_Nm_guest_44 : decode b_Nm_guest 44 = .ok (.aload_n 0, 1) := by decide +kernel
theorem d_Nm_guest_45 : decode b_Nm_guest 45 = .ok (.getfield 48, 3) := by decide +kernel
theorem d_Nm_guest_48 : decode b_Nm_guest 48 = .ok (.iload_n 1, 1) := by decide +kernel
theorem d_Nm_guest_49 : decode b_Nm_guest 49 = .ok (.invokevirtual 104, 3) := by decide +kernel
theorem d_Nm_guest_52 : decode b_Nm_guest 52 = .ok (.ireturn, 1) := by decide +kernel
theorem d_Nm_guest_53 : decode b_Nm_guest 53 = .ok (.aload_n 0, 1) := by decide +kernel
theorem d_Nm_guest_54 : decode b_Nm_guest 54 = .ok (.aload_n 0, 1) := by decide +kernel
theorem d_Nm_guest_55 : decode b_Nm_guest 55 = .ok (.getfield 19, 3) := by decide +kernel
theorem d_Nm_guest_58 : decode b_Nm_guest 58 = .ok (.iload_n 1, 1) := by decide +kernel
theorem d_Nm_guest_59 : decode b_Nm_guest 59 = .ok (.invokevirtual 108, 3) := by decide +kernel
theorem d_Nm_guest_62 : decode b_Nm_guest 62 = .ok (.ireturn, 1) := by decide +kernel
theorem d_Nm_guest_63 : decode b_Nm_guest 63 = .ok (.aload_n 0, 1) := by decide +kernel
theorem d_Nm_guest_64 : decode b_Nm_guest 64 = .ok (.invokevirtual 112, 3) := by decide +kernel
theorem d_Nm_guest_67 : decode b_Nm_guest 67 = .ok (.iload_n 1, 1) := by decide +kernel
theorem d_Nm_guest_68 : decode b_Nm_guest 68 = .ok (.invokevirtual 116, 3) := by decide +kernel
theorem d_Nm_guest_71 : decode b_Nm_guest 71 = .ok (.ireturn, 1) := by decide +kernel
theorem d_Nm_guest_72 : decode b_Nm_guest 72 = .ok (.aload_n 0, 1) := by decide +kernel
theorem d_Nm_guest_73 : decode b_Nm_guest 73 = .ok (.invokevirtual 112, 3) := by decide +kernel
theorem d_Nm_guest_76 : decode b_Nm_guest 76 = .ok (.iload_n 1, 1) := by decide +kernel
theorem d_Nm_guest_77 : decode b_Nm_guest 77 = .ok (.invokevirtual 119, 3) := by decide +kernel
theorem d_Nm_guest_80 : decode b_Nm_guest 80 = .ok (.ireturn, 1) := by decide +kernel
theorem d_Nm_guest_81 : decode b_Nm_guest 81 = .ok (.iconst (-1), 1) := by decide +kernel
theorem d_Nm_guest_82 : decode b_Nm_guest 82 = .ok (.ireturn, 1) := by decide +kernel
theorem d_Nm_dish_0 : decode b_Nm_dish 0 = .ok (.aload_n 0, 1) := by decide +kernel
theorem d_Nm_dish_1 : decode b_Nm_dish 1 = .ok (.getfield 48, 3) := by decide +kernel
theorem d_Nm_dish_4 : decode b_Nm_dish 4 = .ok (.iload_n 1, 1) := by decide +kernel
theorem d_Nm_dish_5 : decode b_Nm_dish 5 = .ok (.invokevirtual 122, 3) := by decide +kernel
theorem d_Nm_dish_8 : decode b_Nm_dish 8 = .ok (.ifCond .ne 5, 3) := by decide +kernel
theorem d_Nm_dish_11 : decode b_Nm_dish 11 = .ok (.iconst (-1), 1) := by decide +kernel
theorem d_Nm_dish_12 : decode b_Nm_dish 12 = .ok (.ireturn, 1) := by decide +kernel
theorem d_Nm_dish_13 : decode b_Nm_dish 13 = .ok (.iload_n 2, 1) := by decide +kernel
theorem d_Nm_dish_14 : decode b_Nm_dish 14 = .ok (.tableswitch 75 0 3 #[30, 39, 56, 65], 30) := by decide +kernel
theorem d_Nm_dish_44 : decode b_Nm_dish 44 = .ok (.aload_n 0, 1) := by decide +kernel
theorem d_Nm_dish_45 : decode b_Nm_dish 45 = .ok (.getfield 48, 3) := by decide +kernel
theorem d_Nm_dish_48 : decode b_Nm_dish 48 = .ok (.iload_n 1, 1) := by decide +kernel
theorem d_Nm_dish_49 : decode b_Nm_dish 49 = .ok (.invokevirtual 125, 3) := by decide +kernel
theorem d_Nm_dish_52 : decode b_Nm_dish 52 = .ok (.ireturn, 1) := by decide +kernel
theorem d_Nm_dish_53 : decode b_Nm_dish 53 = .ok (.aload_n 0, 1) := by decide +kernel
theorem d_Nm_dish_54 : decode b_Nm_dish 54 = .ok (.getfield 19, 3) := by decide +kernel
theorem d_Nm_dish_57 : decode b_Nm_dish 57 = .ok (.iload_n 1, 1) := by decide +kernel
theorem d_Nm_dish_58 : decode b_Nm_dish 58 = .ok (.invokevirtual 128, 3) := by decide +kernel
theorem d_Nm_dish_61 : decode b_Nm_dish 61 = .ok (.ifCond .eq 7, 3) := by decide +kernel
theorem d_Nm_dish_64 : decode b_Nm_dish 64 = .ok (.iconst 1, 1) := by decide +kernel
theorem d_Nm_dish_65 : decode b_Nm_dish 65 = .ok (.goto 4, 3) := by decide +kernel
theorem d_Nm_dish_68 : decode b_Nm_dish 68 = .ok (.iconst 0, 1) := by decide +kernel
theorem d_Nm_dish_69 : decode b_Nm_dish 69 = .ok (.ireturn, 1) := by decide +kernel
theorem d_Nm_dish_70 : decode b_Nm_dish 70 = .ok (.aload_n 0, 1) := by decide +kernel
theorem d_Nm_dish_71 : decode b_Nm_dish 71 = .ok (.invokevirtual 112, 3) := by decide +kernel
theorem d_Nm_dish_74 : decode b_Nm_dish 74 = .ok (.iload_n 1, 1) := by decide +kernel
theorem d_Nm_dish_75 : decode b_Nm_dish 75 = .ok (.invokevirtual 131, 3) := by decide +kernel
theorem d_Nm_dish_78 : decode b_Nm_dish 78 = .ok (.ireturn, 1) := by decide +kernel
theorem d_Nm_dish_79 : decode b_Nm_dish 79 = .ok (.aload_n 0, 1) := by decide +kernel
theorem d_Nm_dish_80 : decode b_Nm_dish 80 = .ok (.invokevirtual 112, 3) := by decide +kernel
theorem d_Nm_dish_83 : decode b_Nm_dish 83 = .ok (.iload_n 1, 1) := by decide +kernel
theorem d_Nm_dish_84 : decode b_Nm_dish 84 = .ok (.iconst (-1), 1) := by decide +kernel
theorem d_Nm_dish_85 : decode b_Nm_dish 85 = .ok (.invokevirtual 134, 3) := by decide +kernel
theorem d_Nm_dish_88 : decode b_Nm_dish 88 = .ok (.ireturn, 1) := by decide +kernel
theorem d_Nm_dish_89 : decode b_Nm_dish 89 = .ok (.iconst (-1), 1) := by decide +kernel
theorem d_Nm_dish_90 : decode b_Nm_dish 90 = .ok (.ireturn, 1) := by decide +kernel
theorem d_Nm_worth_0 : decode b_Nm_worth 0 = .ok (.aload_n 0, 1) := by decide +kernel
theorem d_Nm_worth_1 : decode b_Nm_worth 1 = .ok (.getfield 48, 3) := by decide +kernel
theorem d_Nm_worth_4 : decode b_Nm_worth 4 = .ok (.iload_n 1, 1) := by decide +kernel
theorem d_Nm_worth_5 : decode b_Nm_worth 5 = .ok (.invokevirtual 100, 3) := by decide +kernel
theorem d_Nm_worth_8 : decode b_Nm_worth 8 = .ok (.ifCond .eq 14, 3) := by decide +kernel
theorem d_Nm_worth_11 : decode b_Nm_worth 11 = .ok (.aload_n 0, 1) := by decide +kernel
theorem d_Nm_worth_12 : decode b_Nm_worth 12 = .ok (.getfield 48, 3) := by decide +kernel
theorem d_Nm_worth_15 : decode b_Nm_worth 15 = .ok (.iload_n 2, 1) := by decide +kernel
theorem d_Nm_worth_16 : decode b_Nm_worth 16 = .ok (.invokevirtual 122, 3) := by decide +kernel
theorem d_Nm_worth_19 : decode b_Nm_worth 19 = .ok (.ifCond .ne 5, 3) := by decide +kernel
theorem d_Nm_worth_22 : decode b_Nm_worth 22 = .ok (.iconst (-1), 1) := by decide +kernel
theorem d_Nm_worth_23 : decode b_Nm_worth 23 = .ok (.ireturn, 1) := by decide +kernel
theorem d_Nm_worth_24 : decode b_Nm_worth 24 = .ok (.aload_n 0, 1) := by decide +kernel
theorem d_Nm_worth_25 : decode b_Nm_worth 25 = .ok (.invokevirtual 112, 3) := by decide +kernel
theorem d_Nm_worth_28 : decode b_Nm_worth 28 = .ok (.iload_n 1, 1) := by decide +kernel
theorem d_Nm_worth_29 : decode b_Nm_worth 29 = .ok (.iload_n 2, 1) := by decide +kernel
theorem d_Nm_worth_30 : decode b_Nm_worth 30 = .ok (.invokevirtual 138, 3) := by decide +kernel
theorem d_Nm_worth_33 : decode b_Nm_worth 33 = .ok (.ireturn, 1) := by decide +kernel
theorem d_Nm_pass_0 : decode b_Nm_pass 0 = .ok (.iload_n 1, 1) := by decide +kernel
theorem d_Nm_pass_1 : decode b_Nm_pass 1 = .ok (.iconst 1, 1) := by decide +kernel
theorem d_Nm_pass_2 : decode b_Nm_pass 2 = .ok (.bipush 30, 2) := by decide +kernel
theorem d_Nm_pass_4 : decode b_Nm_pass 4 = .ok (.invokestatic 86, 3) := by decide +kernel
theorem d_Nm_pass_7 : decode b_Nm_pass 7 = .ok (.ifCond .eq 5, 3) := by decide +kernel
theorem d_Nm_pass_10 : decode b_Nm_pass 10 = .ok (.iconst (-1), 1) := by decide +kernel
theorem d_Nm_pass_11 : decode b_Nm_pass 11 = .ok (.ireturn, 1) := by decide +kernel
theorem d_Nm_pass_12 : decode b_Nm_pass 12 = .ok (.aload_n 0, 1) := by decide +kernel
theorem d_Nm_pass_13 : decode b_Nm_pass 13 = .ok (.getfield 19, 3) := by decide +kernel
theorem d_Nm_pass_16 : decode b_Nm_pass 16 = .ok (.invokevirtual 141, 3) := by decide +kernel
theorem d_Nm_pass_19 : decode b_Nm_pass 19 = .ok (.ifCond .ne 17, 3) := by decide +kernel
theorem d_Nm_pass_22 : decode b_Nm_pass 22 = .ok (.aload_n 0, 1) := by decide +kernel
theorem d_Nm_pass_23 : decode b_Nm_pass 23 = .ok (.getfield 19, 3) := by decide +kernel
theorem d_Nm_pass_26 : decode b_Nm_pass 26 = .ok (.getfield 145, 3) := by decide +kernel
theorem d_Nm_pass_29 : decode b_Nm_pass 29 = .ok (.iload_n 1, 1) := by decide +kernel
theorem d_Nm_pass_30 : decode b_Nm_pass 30 = .ok (.iadd, 1) := by decide +kernel
theorem d_Nm_pass_31 : decode b_Nm_pass 31 = .ok (.bipush 99, 2) := by decide +kernel
theorem d_Nm_pass_33 : decode b_Nm_pass 33 = .ok (.if_icmp .le 6, 3) := by decide +kernel
theorem d_Nm_pass_36 : decode b_Nm_pass 36 = .ok (.bipush (-2), 2) := by decide +kernel
theorem d_Nm_pass_38 : decode b_Nm_pass 38 = .ok (.ireturn, 1) := by decide +kernel
theorem d_Nm_pass_39 : decode b_Nm_pass 39 = .ok (.aload_n 0, 1) := by decide +kernel
theorem d_Nm_pass_40 : decode b_Nm_pass 40 = .ok (.getfield 31, 3) := by decide +kernel
theorem d_Nm_pass_43 : decode b_Nm_pass 43 = .ok (.aload_n 0, 1) := by decide +kernel
theorem d_Nm_pass_44 : decode b_Nm_pass 44 = .ok (.getfield 19, 3) := by decide +kernel
theorem d_Nm_pass_47 : decode b_Nm_pass 47 = .ok (.invokevirtual 148, 3) := by decide +kernel
theorem d_Nm_pass_50 : decode b_Nm_pass 50 = .ok (.aload_n 0, 1) := by decide +kernel
theorem d_Nm_pass_51 : decode b_Nm_pass 51 = .ok (.getfield 19, 3) := by decide +kernel
theorem d_Nm_pass_54 : decode b_Nm_pass 54 = .ok (.dup, 1) := by decide +kernel
theorem d_Nm_pass_55 : decode b_Nm_pass 55 = .ok (.getfield 145, 3) := by decide +kernel
theorem d_Nm_pass_58 : decode b_Nm_pass 58 = .ok (.iload_n 1, 1) := by decide +kernel
theorem d_Nm_pass_59 : decode b_Nm_pass 59 = .ok (.iadd, 1) := by decide +kernel
theorem d_Nm_pass_60 : decode b_Nm_pass 60 = .ok (.putfield 145, 3) := by decide +kernel
theorem d_Nm_pass_63 : decode b_Nm_pass 63 = .ok (.aload_n 0, 1) := by decide +kernel
theorem d_Nm_pass_64 : decode b_Nm_pass 64 = .ok (.getfield 19, 3) := by decide +kernel
theorem d_Nm_pass_67 : decode b_Nm_pass 67 = .ok (.getfield 145, 3) := by decide +kernel
theorem d_Nm_pass_70 : decode b_Nm_pass 70 = .ok (.ireturn, 1) := by decide +kernel
theorem d_Nm_veto_0 : decode b_Nm_veto 0 = .ok (.aload_n 0, 1) := by decide +kernel
theorem d_Nm_veto_1 : decode b_Nm_veto 1 = .ok (.getfield 48, 3) := by decide +kernel
theorem d_Nm_veto_4 : decode b_Nm_veto 4 = .ok (.iload_n 1, 1) := by decide +kernel
theorem d_Nm_veto_5 : decode b_Nm_veto 5 = .ok (.invokevirtual 100, 3) := by decide +kernel
theorem d_Nm_veto_8 : decode b_Nm_veto 8 = .ok (.ifCond .eq 14, 3) := by decide +kernel
theorem d_Nm_veto_11 : decode b_Nm_veto 11 = .ok (.aload_n 0, 1) := by decide +kernel
theorem d_Nm_veto_12 : decode b_Nm_veto 12 = .ok (.getfield 48, 3) := by decide +kernel
theorem d_Nm_veto_15 : decode b_Nm_veto 15 = .ok (.iload_n 2, 1) := by decide +kernel
theorem d_Nm_veto_16 : decode b_Nm_veto 16 = .ok (.invokevirtual 122, 3) := by decide +kernel
theorem d_Nm_veto_19 : decode b_Nm_veto 19 = .ok (.ifCond .ne 5, 3) := by decide +kernel
theorem d_Nm_veto_22 : decode b_Nm_veto 22 = .ok (.iconst (-1), 1) := by decide +kernel
theorem d_Nm_veto_23 : decode b_Nm_veto 23 = .ok (.ireturn, 1) := by decide +kernel
theorem d_Nm_veto_24 : decode b_Nm_veto 24 = .ok (.aload_n 0, 1) := by decide +kernel
theorem d_Nm_veto_25 : decode b_Nm_veto 25 = .ok (.getfield 19, 3) := by decide +kernel
theorem d_Nm_veto_28 : decode b_Nm_veto 28 = .ok (.invokevirtual 141, 3) := by decide +kernel
theorem d_Nm_veto_31 : decode b_Nm_veto 31 = .ok (.ifCond .ne 14, 3) := by decide +kernel
theorem d_Nm_veto_34 : decode b_Nm_veto 34 = .ok (.aload_n 0, 1) := by decide +kernel
theorem d_Nm_veto_35 : decode b_Nm_veto 35 = .ok (.getfield 19, 3) := by decide +kernel
theorem d_Nm_veto_38 : decode b_Nm_veto 38 = .ok (.iload_n 2, 1) := by decide +kernel
theorem d_Nm_veto_39 : decode b_Nm_veto 39 = .ok (.invokevirtual 128, 3) := by decide +kernel
theorem d_Nm_veto_42 : decode b_Nm_veto 42 = .ok (.ifCond .eq 6, 3) := by decide +kernel
theorem d_Nm_veto_45 : decode b_Nm_veto 45 = .ok (.bipush (-2), 2) := by decide +kernel
theorem d_Nm_veto_47 : decode b_Nm_veto 47 = .ok (.ireturn, 1) := by decide +kernel
theorem d_Nm_veto_48 : decode b_Nm_veto 48 = .ok (.aload_n 0, 1) := by decide +kernel
theorem d_Nm_veto_49 : decode b_Nm_veto 49 = .ok (.aload_n 0, 1) := by decide +kernel
theorem d_Nm_veto_50 : decode b_Nm_veto 50 = .ok (.getfield 19, 3) := by decide +kernel
theorem d_Nm_veto_53 : decode b_Nm_veto 53 = .ok (.iload_n 1, 1) := by decide +kernel
theorem d_Nm_veto_54 : decode b_Nm_veto 54 = .ok (.invokevirtual 108, 3) := by decide +kernel
theorem d_Nm_veto_57 : decode b_Nm_veto 57 = .ok (.iconst 1, 1) := by decide +kernel
theorem d_Nm_veto_58 : decode b_Nm_veto 58 = .ok (.if_icmp .lt 15, 3) := by decide +kernel
theorem d_Nm_veto_61 : decode b_Nm_veto 61 = .ok (.aload_n 0, 1) := by decide +kernel
theorem d_Nm_veto_62 : decode b_Nm_veto 62 = .ok (.aload_n 0, 1) := by decide +kernel
theorem d_Nm_veto_63 : decode b_Nm_veto 63 = .ok (.getfield 19, 3) := by decide +kernel
theorem d_Nm_veto_66 : decode b_Nm_veto 66 = .ok (.invokevirtual 152, 3) := by decide +kernel
theorem d_Nm_veto_69 : decode b_Nm_veto 69 = .ok (.iconst 2, 1) := by decide +kernel
theorem d_Nm_veto_70 : decode b_Nm_veto 70 = .ok (.if_icmp .ge 6, 3) := by decide +kernel
theorem d_Nm_veto_73 : decode b_Nm_veto 73 = .ok (.bipush (-2), 2) := by decide +kernel
theorem d_Nm_veto_75 : decode b_Nm_veto 75 = .ok (.ireturn, 1) := by decide +kernel
theorem d_Nm_veto_76 : decode b_Nm_veto 76 = .ok (.aload_n 0, 1) := by decide +kernel
theorem d_Nm_veto_77 : decode b_Nm_veto 77 = .ok (.getfield 31, 3) := by decide +kernel
theorem d_Nm_veto_80 : decode b_Nm_veto 80 = .ok (.aload_n 0, 1) := by decide +kernel
theorem d_Nm_veto_81 : decode b_Nm_veto 81 = .ok (.getfield 19, 3) := by decide +kernel
theorem d_Nm_veto_84 : decode b_Nm_veto 84 = .ok (.invokevirtual 148, 3) := by decide +kernel
theorem d_Nm_veto_87 : decode b_Nm_veto 87 = .ok (.aload_n 0, 1) := by decide +kernel
theorem d_Nm_veto_88 : decode b_Nm_veto 88 = .ok (.getfield 19, 3) := by decide +kernel
theorem d_Nm_veto_91 : decode b_Nm_veto 91 = .ok (.iload_n 1, 1) := by decide +kernel
theorem d_Nm_veto_92 : decode b_Nm_veto 92 = .ok (.iload_n 2, 1) := by decide +kernel
theorem d_Nm_veto_93 : decode b_Nm_veto 93 = .ok (.invokevirtual 156, 3) := by decide +kernel
theorem d_Nm_veto_96 : decode b_Nm_veto 96 = .ok (.aload_n 0, 1) := by decide +kernel
theorem d_Nm_veto_97 : decode b_Nm_veto 97 = .ok (.aload_n 0, 1) := by decide +kernel
theorem d_Nm_veto_98 : decode b_Nm_veto 98 = .ok (.getfield 19, 3) := by decide +kernel
theorem d_Nm_veto_101 : decode b_Nm_veto 101 = .ok (.invokevirtual 152, 3) := by decide +kernel
theorem d_Nm_veto_104 : decode b_Nm_veto 104 = .ok (.ireturn, 1) := by decide +kernel
theorem d_Nm_order_0 : decode b_Nm_order 0 = .ok (.aload_n 0, 1) := by decide +kernel
theorem d_Nm_order_1 : decode b_Nm_order 1 = .ok (.getfield 48, 3) := by decide +kernel
theorem d_Nm_order_4 : decode b_Nm_order 4 = .ok (.iload_n 1, 1) := by decide +kernel
theorem d_Nm_order_5 : decode b_Nm_order 5 = .ok (.invokevirtual 122, 3) := by decide +kernel
theorem d_Nm_order_8 : decode b_Nm_order 8 = .ok (.ifCond .ne 5, 3) := by decide +kernel
theorem d_Nm_order_11 : decode b_Nm_order 11 = .ok (.iconst (-1), 1) := by decide +kernel
theorem d_Nm_order_12 : decode b_Nm_order 12 = .ok (.ireturn, 1) := by decide +kernel
theorem d_Nm_order_13 : decode b_Nm_order 13 = .ok (.aload_n 0, 1) := by decide +kernel
theorem d_Nm_order_14 : decode b_Nm_order 14 = .ok (.getfield 19, 3) := by decide +kernel
theorem d_Nm_order_17 : decode b_Nm_order 17 = .ok (.invokevirtual 141, 3) := by decide +kernel
theorem d_Nm_order_20 : decode b_Nm_order 20 = .ok (.ifCond .ne 14, 3) := by decide +kernel
theorem d_Nm_order_23 : decode b_Nm_order 23 = .ok (.aload_n 0, 1) := by decide +kernel
theorem d_Nm_order_24 : decode b_Nm_order 24 = .ok (.getfield 19, 3) := by decide +kernel
theorem d_Nm_order_27 : decode b_Nm_order 27 = .ok (.iload_n 1, 1) := by decide +kernel
theorem d_Nm_order_28 : decode b_Nm_order 28 = .ok (.invokevirtual 128, 3) := by decide +kernel
theorem d_Nm_order_31 : decode b_Nm_order 31 = .ok (.ifCond .eq 6, 3) := by decide +kernel
theorem d_Nm_order_34 : decode b_Nm_order 34 = .ok (.bipush (-2), 2) := by decide +kernel
theorem d_Nm_order_36 : decode b_Nm_order 36 = .ok (.ireturn, 1) := by decide +kernel
theorem d_Nm_order_37 : decode b_Nm_order 37 = .ok (.aload_n 0, 1) := by decide +kernel
theorem d_Nm_order_38 : decode b_Nm_order 38 = .ok (.getfield 48, 3) := by decide +kernel
theorem d_Nm_order_41 : decode b_Nm_order 41 = .ok (.iload_n 1, 1) := by decide +kernel
theorem d_Nm_order_42 : decode b_Nm_order 42 = .ok (.aload_n 0, 1) := by decide +kernel
theorem d_Nm_order_43 : decode b_Nm_order 43 = .ok (.getfield 19, 3) := by decide +kernel
theorem d_Nm_order_46 : decode b_Nm_order 46 = .ok (.getfield 145, 3) := by decide +kernel
theorem d_Nm_order_49 : decode b_Nm_order 49 = .ok (.invokevirtual 160, 3) := by decide +kernel
theorem d_Nm_order_52 : decode b_Nm_order 52 = .ok (.ifCond .ne 6, 3) := by decide +kernel
theorem d_Nm_order_55 : decode b_Nm_order 55 = .ok (.bipush (-2), 2) := by decide +kernel
theorem d_Nm_order_57 : decode b_Nm_order 57 = .ok (.ireturn, 1) := by decide +kernel
theorem d_Nm_order_58 : decode b_Nm_order 58 = .ok (.aload_n 0, 1) := by decide +kernel
theorem d_Nm_order_59 : decode b_Nm_order 59 = .ok (.getfield 31, 3) := by decide +kernel
theorem d_Nm_order_62 : decode b_Nm_order 62 = .ok (.aload_n 0, 1) := by decide +kernel
theorem d_Nm_order_63 : decode b_Nm_order 63 = .ok (.getfield 19, 3) := by decide +kernel
theorem d_Nm_order_66 : decode b_Nm_order 66 = .ok (.invokevirtual 148, 3) := by decide +kernel
theorem d_Nm_order_69 : decode b_Nm_order 69 = .ok (.aload_n 0, 1) := by decide +kernel
theorem d_Nm_order_70 : decode b_Nm_order 70 = .ok (.getfield 19, 3) := by decide +kernel
theorem d_Nm_order_73 : decode b_Nm_order 73 = .ok (.iload_n 1, 1) := by decide +kernel
theorem d_Nm_order_74 : decode b_Nm_order 74 = .ok (.putfield 164, 3) := by decide +kernel
theorem d_Nm_order_77 : decode b_Nm_order 77 = .ok (.aload_n 0, 1) := by decide +kernel
theorem d_Nm_order_78 : decode b_Nm_order 78 = .ok (.getfield 19, 3) := by decide +kernel
theorem d_Nm_order_81 : decode b_Nm_order 81 = .ok (.getfield 145, 3) := by decide +kernel
theorem d_Nm_order_84 : decode b_Nm_order 84 = .ok (.aload_n 0, 1) := by decide +kernel
theorem d_Nm_order_85 : decode b_Nm_order 85 = .ok (.getfield 48, 3) := by decide +kernel
theorem d_Nm_order_88 : decode b_Nm_order 88 = .ok (.iload_n 1, 1) := by decide +kernel
theorem d_Nm_order_89 : decode b_Nm_order 89 = .ok (.invokevirtual 125, 3) := by decide +kernel
theorem d_Nm_order_92 : decode b_Nm_order 92 = .ok (.iadd, 1) := by decide +kernel
theorem d_Nm_order_93 : decode b_Nm_order 93 = .ok (.ireturn, 1) := by decide +kernel
theorem d_Nm_undo_0 : decode b_Nm_undo 0 = .ok (.aload_n 0, 1) := by decide +kernel
theorem d_Nm_undo_1 : decode b_Nm_undo 1 = .ok (.getfield 31, 3) := by decide +kernel
theorem d_Nm_undo_4 : decode b_Nm_undo 4 = .ok (.aload_n 0, 1) := by decide +kernel
theorem d_Nm_undo_5 : decode b_Nm_undo 5 = .ok (.getfield 19, 3) := by decide +kernel
theorem d_Nm_undo_8 : decode b_Nm_undo 8 = .ok (.invokevirtual 167, 3) := by decide +kernel
theorem d_Nm_undo_11 : decode b_Nm_undo 11 = .ok (.ifCond .eq 13, 3) := by decide +kernel
theorem d_Nm_undo_14 : decode b_Nm_undo 14 = .ok (.aload_n 0, 1) := by decide +kernel
theorem d_Nm_undo_15 : decode b_Nm_undo 15 = .ok (.getfield 31, 3) := by decide +kernel
theorem d_Nm_undo_18 : decode b_Nm_undo 18 = .ok (.getfield 96, 3) := by decide +kernel
theorem d_Nm_undo_21 : decode b_Nm_undo 21 = .ok (.goto 5, 3) := by decide +kernel
theorem d_Nm_undo_24 : decode b_Nm_undo 24 = .ok (.bipush (-2), 2) := by decide +kernel
theorem d_Nm_undo_26 : decode b_Nm_undo 26 = .ok (.ireturn, 1) := by decide +kernel
theorem d_Nm_most_0 : decode b_Nm_most 0 = .ok (.iload_n 1, 1) := by decide +kernel
theorem d_Nm_most_1 : decode b_Nm_most 1 = .ok (.iconst 0, 1) := by decide +kernel
theorem d_Nm_most_2 : decode b_Nm_most 2 = .ok (.iconst 1, 1) := by decide +kernel
theorem d_Nm_most_3 : decode b_Nm_most 3 = .ok (.invokestatic 86, 3) := by decide +kernel
theorem d_Nm_most_6 : decode b_Nm_most 6 = .ok (.ifCond .eq 5, 3) := by decide +kernel
theorem d_Nm_most_9 : decode b_Nm_most 9 = .ok (.iconst (-1), 1) := by decide +kernel
theorem d_Nm_most_10 : decode b_Nm_most 10 = .ok (.ireturn, 1) := by decide +kernel
theorem d_Nm_most_11 : decode b_Nm_most 11 = .ok (.aload_n 0, 1) := by decide +kernel
theorem d_Nm_most_12 : decode b_Nm_most 12 = .ok (.invokevirtual 112, 3) := by decide +kernel
theorem d_Nm_most_15 : decode b_Nm_most 15 = .ok (.astore_n 2, 1) := by decide +kernel
theorem d_Nm_most_16 : decode b_Nm_most 16 = .ok (.aload_n 2, 1) := by decide +kernel
theorem d_Nm_most_17 : decode b_Nm_most 17 = .ok (.iconst (-1), 1) := by decide +kernel
theorem d_Nm_most_18 : decode b_Nm_most 18 = .ok (.invokevirtual 171, 3) := by decide +kernel
theorem d_Nm_most_21 : decode b_Nm_most 21 = .ok (.istore_n 3, 1) := by decide +kernel
theorem d_Nm_most_22 : decode b_Nm_most 22 = .ok (.iload_n 1, 1) := by decide +kernel
theorem d_Nm_most_23 : decode b_Nm_most 23 = .ok (.ifCond .ne 7, 3) := by decide +kernel
theorem d_Nm_most_26 : decode b_Nm_most 26 = .ok (.iload_n 3, 1) := by decide +kernel
theorem d_Nm_most_27 : decode b_Nm_most 27 = .ok (.goto 9, 3) := by decide +kernel
theorem d_Nm_most_30 : decode b_Nm_most 30 = .ok (.aload_n 2, 1) := by decide +kernel
theorem d_Nm_most_31 : decode b_Nm_most 31 = .ok (.iload_n 3, 1) := by decide +kernel
theorem d_Nm_most_32 : decode b_Nm_most 32 = .ok (.iconst (-1), 1) := by decide +kernel
theorem d_Nm_most_33 : decode b_Nm_most 33 = .ok (.invokevirtual 134, 3) := by decide +kernel
theorem d_Nm_most_36 : decode b_Nm_most 36 = .ok (.ireturn, 1) := by decide +kernel
theorem d_Nm_fair_0 : decode b_Nm_fair 0 = .ok (.iload_n 1, 1) := by decide +kernel
theorem d_Nm_fair_1 : decode b_Nm_fair 1 = .ok (.iconst 0, 1) := by decide +kernel
theorem d_Nm_fair_2 : decode b_Nm_fair 2 = .ok (.iconst 1, 1) := by decide +kernel
theorem d_Nm_fair_3 : decode b_Nm_fair 3 = .ok (.invokestatic 86, 3) := by decide +kernel
theorem d_Nm_fair_6 : decode b_Nm_fair 6 = .ok (.ifCond .eq 5, 3) := by decide +kernel
theorem d_Nm_fair_9 : decode b_Nm_fair 9 = .ok (.iconst (-1), 1) := by decide +kernel
theorem d_Nm_fair_10 : decode b_Nm_fair 10 = .ok (.ireturn, 1) := by decide +kernel
theorem d_Nm_fair_11 : decode b_Nm_fair 11 = .ok (.aload_n 0, 1) := by decide +kernel
theorem d_Nm_fair_12 : decode b_Nm_fair 12 = .ok (.invokevirtual 112, 3) := by decide +kernel
theorem d_Nm_fair_15 : decode b_Nm_fair 15 = .ok (.astore_n 2, 1) := by decide +kernel
theorem d_Nm_fair_16 : decode b_Nm_fair 16 = .ok (.aload_n 2, 1) := by decide +kernel
theorem d_Nm_fair_17 : decode b_Nm_fair 17 = .ok (.invokevirtual 174, 3) := by decide +kernel
theorem d_Nm_fair_20 : decode b_Nm_fair 20 = .ok (.istore_n 3, 1) := by decide +kernel
theorem d_Nm_fair_21 : decode b_Nm_fair 21 = .ok (.iload_n 1, 1) := by decide +kernel
theorem d_Nm_fair_22 : decode b_Nm_fair 22 = .ok (.ifCond .ne 7, 3) := by decide +kernel
theorem d_Nm_fair_25 : decode b_Nm_fair 25 = .ok (.iload_n 3, 1) := by decide +kernel
theorem d_Nm_fair_26 : decode b_Nm_fair 26 = .ok (.goto 8, 3) := by decide +kernel
theorem d_Nm_fair_29 : decode b_Nm_fair 29 = .ok (.aload_n 2, 1) := by decide +kernel
theorem d_Nm_fair_30 : decode b_Nm_fair 30 = .ok (.iload_n 3, 1) := by decide +kernel
theorem d_Nm_fair_31 : decode b_Nm_fair 31 = .ok (.invokevirtual 177, 3) := by decide +kernel
theorem d_Nm_fair_34 : decode b_Nm_fair 34 = .ok (.ireturn, 1) := by decide +kernel
theorem d_Nm_beats_0 : decode b_Nm_beats 0 = .ok (.aload_n 0, 1) := by decide +kernel
theorem d_Nm_beats_1 : decode b_Nm_beats 1 = .ok (.iload_n 1, 1) := by decide +kernel
theorem d_Nm_beats_2 : decode b_Nm_beats 2 = .ok (.invokevirtual 180, 3) := by decide +kernel
theorem d_Nm_beats_5 : decode b_Nm_beats 5 = .ok (.ifCond .eq 16, 3) := by decide +kernel
theorem d_Nm_beats_8 : decode b_Nm_beats 8 = .ok (.aload_n 0, 1) := by decide +kernel
theorem d_Nm_beats_9 : decode b_Nm_beats 9 = .ok (.iload_n 2, 1) := by decide +kernel
theorem d_Nm_beats_10 : decode b_Nm_beats 10 = .ok (.invokevirtual 180, 3) := by decide +kernel
theorem d_Nm_beats_13 : decode b_Nm_beats 13 = .ok (.ifCond .eq 8, 3) := by decide +kernel
theorem d_Nm_beats_16 : decode b_Nm_beats 16 = .ok (.iload_n 1, 1) := by decide +kernel
theorem d_Nm_beats_17 : decode b_Nm_beats 17 = .ok (.iload_n 2, 1) := by decide +kernel
theorem d_Nm_beats_18 : decode b_Nm_beats 18 = .ok (.if_icmp .ne 5, 3) := by decide +kernel
theorem d_Nm_beats_21 : decode b_Nm_beats 21 = .ok (.iconst (-1), 1) := by decide +kernel
theorem d_Nm_beats_22 : decode b_Nm_beats 22 = .ok (.ireturn, 1) := by decide +kernel
theorem d_Nm_beats_23 : decode b_Nm_beats 23 = .ok (.aload_n 0, 1) := by decide +kernel
theorem d_Nm_beats_24 : decode b_Nm_beats 24 = .ok (.invokevirtual 112, 3) := by decide +kernel
theorem d_Nm_beats_27 : decode b_Nm_beats 27 = .ok (.iload_n 1, 1) := by decide +kernel
theorem d_Nm_beats_28 : decode b_Nm_beats 28 = .ok (.iload_n 2, 1) := by decide +kernel
theorem d_Nm_beats_29 : decode b_Nm_beats 29 = .ok (.invokevirtual 183, 3) := by decide +kernel
theorem d_Nm_beats_32 : decode b_Nm_beats 32 = .ok (.bipush 50, 2) := by decide +kernel
theorem d_Nm_beats_34 : decode b_Nm_beats 34 = .ok (.iadd, 1) := by decide +kernel
theorem d_Nm_beats_35 : decode b_Nm_beats 35 = .ok (.ireturn, 1) := by decide +kernel
theorem d_Nm_champion_0 : decode b_Nm_champion 0 = .ok (.aload_n 0, 1) := by decide +kernel
theorem d_Nm_champion_1 : decode b_Nm_champion 1 = .ok (.invokevirtual 112, 3) := by decide +kernel
theorem d_Nm_champion_4 : decode b_Nm_champion 4 = .ok (.invokevirtual 186, 3) := by decide +kernel
theorem d_Nm_champion_7 : decode b_Nm_champion 7 = .ok (.ireturn, 1) := by decide +kernel
theorem d_Nm_middle_0 : decode b_Nm_middle 0 = .ok (.aload_n 0, 1) := by decide +kernel
theorem d_Nm_middle_1 : decode b_Nm_middle 1 = .ok (.invokevirtual 112, 3) := by decide +kernel
theorem d_Nm_middle_4 : decode b_Nm_middle 4 = .ok (.invokevirtual 189, 3) := by decide +kernel
theorem d_Nm_middle_7 : decode b_Nm_middle 7 = .ok (.ireturn, 1) := by decide +kernel
theorem d_Nm_struck_0 : decode b_Nm_struck 0 = .ok (.aload_n 0, 1) := by decide +kernel
theorem d_Nm_struck_1 : decode b_Nm_struck 1 = .ok (.getfield 48, 3) := by decide +kernel
theorem d_Nm_struck_4 : decode b_Nm_struck 4 = .ok (.iload_n 1, 1) := by decide +kernel
theorem d_Nm_struck_5 : decode b_Nm_struck 5 = .ok (.invokevirtual 100, 3) := by decide +kernel
theorem d_Nm_struck_8 : decode b_Nm_struck 8 = .ok (.ifCond .ne 5, 3) := by decide +kernel
theorem d_Nm_struck_11 : decode b_Nm_struck 11 = .ok (.iconst (-1), 1) := by decide +kernel
theorem d_Nm_struck_12 : decode b_Nm_struck 12 = .ok (.ireturn, 1) := by decide +kernel
theorem d_Nm_struck_13 : decode b_Nm_struck 13 = .ok (.aload_n 0, 1) := by decide +kernel
theorem d_Nm_struck_14 : decode b_Nm_struck 14 = .ok (.invokevirtual 112, 3) := by decide +kernel
theorem d_Nm_struck_17 : decode b_Nm_struck 17 = .ok (.iload_n 1, 1) := by decide +kernel
theorem d_Nm_struck_18 : decode b_Nm_struck 18 = .ok (.invokevirtual 192, 3) := by decide +kernel
theorem d_Nm_struck_21 : decode b_Nm_struck 21 = .ok (.ireturn, 1) := by decide +kernel
theorem d_Nm_two_0 : decode b_Nm_two 0 = .ok (.iload_n 1, 1) := by decide +kernel
theorem d_Nm_two_1 : decode b_Nm_two 1 = .ok (.iconst 0, 1) := by decide +kernel
theorem d_Nm_two_2 : decode b_Nm_two 2 = .ok (.iconst 1, 1) := by decide +kernel
theorem d_Nm_two_3 : decode b_Nm_two 3 = .ok (.invokestatic 86, 3) := by decide +kernel
theorem d_Nm_two_6 : decode b_Nm_two 6 = .ok (.ifCond .eq 5, 3) := by decide +kernel
theorem d_Nm_two_9 : decode b_Nm_two 9 = .ok (.iconst (-1), 1) := by decide +kernel
theorem d_Nm_two_10 : decode b_Nm_two 10 = .ok (.ireturn, 1) := by decide +kernel
theorem d_Nm_two_11 : decode b_Nm_two 11 = .ok (.aload_n 0, 1) := by decide +kernel
theorem d_Nm_two_12 : decode b_Nm_two 12 = .ok (.aload_n 0, 1) := by decide +kernel
theorem d_Nm_two_13 : decode b_Nm_two 13 = .ok (.getfield 19, 3) := by decide +kernel
theorem d_Nm_two_16 : decode b_Nm_two 16 = .ok (.invokevirtual 152, 3) := by decide +kernel
theorem d_Nm_two_19 : decode b_Nm_two 19 = .ok (.iconst 2, 1) := by decide +kernel
theorem d_Nm_two_20 : decode b_Nm_two 20 = .ok (.if_icmp .ge 6, 3) := by decide +kernel
theorem d_Nm_two_23 : decode b_Nm_two 23 = .ok (.bipush (-4), 2) := by decide +kernel
theorem d_Nm_two_25 : decode b_Nm_two 25 = .ok (.ireturn, 1) := by decide +kernel
theorem d_Nm_two_26 : decode b_Nm_two 26 = .ok (.aload_n 0, 1) := by decide +kernel
theorem d_Nm_two_27 : decode b_Nm_two 27 = .ok (.invokevirtual 112, 3) := by decide +kernel
theorem d_Nm_two_30 : decode b_Nm_two 30 = .ok (.astore_n 2, 1) := by decide +kernel
theorem d_Nm_two_31 : decode b_Nm_two 31 = .ok (.aload_n 2, 1) := by decide +kernel
theorem d_Nm_two_32 : decode b_Nm_two 32 = .ok (.invokevirtual 195, 3) := by decide +kernel
theorem d_Nm_two_35 : decode b_Nm_two 35 = .ok (.istore_n 3, 1) := by decide +kernel
theorem d_Nm_two_36 : decode b_Nm_two 36 = .ok (.iload_n 1, 1) := by decide +kernel
theorem d_Nm_two_37 : decode b_Nm_two 37 = .ok (.ifCond .ne 7, 3) := by decide +kernel
theorem d_Nm_two_40 : decode b_Nm_two 40 = .ok (.iload_n 3, 1) := by decide +kernel
theorem d_Nm_two_41 : decode b_Nm_two 41 = .ok (.goto 15, 3) := by decide +kernel
theorem d_Nm_two_44 : decode b_Nm_two 44 = .ok (.aload_n 2, 1) := by decide +kernel
theorem d_Nm_two_45 : decode b_Nm_two 45 = .ok (.iload_n 3, 1) := by decide +kernel
theorem d_Nm_two_46 : decode b_Nm_two 46 = .ok (.bipush 8, 2) := by decide +kernel
theorem d_Nm_two_48 : decode b_Nm_two 48 = .ok (.idiv, 1) := by decide +kernel
theorem d_Nm_two_49 : decode b_Nm_two 49 = .ok (.iload_n 3, 1) := by decide +kernel
theorem d_Nm_two_50 : decode b_Nm_two 50 = .ok (.bipush 8, 2) := by decide +kernel
theorem d_Nm_two_52 : decode b_Nm_two 52 = .ok (.irem, 1) := by decide +kernel
theorem d_Nm_two_53 : decode b_Nm_two 53 = .ok (.invokevirtual 198, 3) := by decide +kernel
theorem d_Nm_two_56 : decode b_Nm_two 56 = .ok (.ireturn, 1) := by decide +kernel
theorem d_Nm_houses_0 : decode b_Nm_houses 0 = .ok (.iload_n 1, 1) := by decide +kernel
theorem d_Nm_houses_1 : decode b_Nm_houses 1 = .ok (.iconst 0, 1) := by decide +kernel
theorem d_Nm_houses_2 : decode b_Nm_houses 2 = .ok (.bipush 99, 2) := by decide +kernel
theorem d_Nm_houses_4 : decode b_Nm_houses 4 = .ok (.invokestatic 86, 3) := by decide +kernel
theorem d_Nm_houses_7 : decode b_Nm_houses 7 = .ok (.ifCond .eq 5, 3) := by decide +kernel
theorem d_Nm_houses_10 : decode b_Nm_houses 10 = .ok (.iconst (-1), 1) := by decide +kernel
theorem d_Nm_houses_11 : decode b_Nm_houses 11 = .ok (.ireturn, 1) := by decide +kernel
theorem d_Nm_houses_12 : decode b_Nm_houses 12 = .ok (.aload_n 0, 1) := by decide +kernel
theorem d_Nm_houses_13 : decode b_Nm_houses 13 = .ok (.aload_n 0, 1) := by decide +kernel
theorem d_Nm_houses_14 : decode b_Nm_houses 14 = .ok (.getfield 19, 3) := by decide +kernel
theorem d_Nm_houses_17 : decode b_Nm_houses 17 = .ok (.invokevirtual 152, 3) := by decide +kernel
theorem d_Nm_houses_20 : decode b_Nm_houses 20 = .ok (.iconst 2, 1) := by decide +kernel
theorem d_Nm_houses_21 : decode b_Nm_houses 21 = .ok (.if_icmp .ge 5, 3) := by decide +kernel
theorem d_Nm_houses_24 : decode b_Nm_houses 24 = .ok (.iconst 2, 1) := by decide +kernel
theorem d_Nm_houses_25 : decode b_Nm_houses 25 = .ok (.ireturn, 1) := by decide +kernel
theorem d_Nm_houses_26 : decode b_Nm_houses 26 = .ok (.aload_n 0, 1) := by decide +kernel
theorem d_Nm_houses_27 : decode b_Nm_houses 27 = .ok (.invokevirtual 112, 3) := by decide +kernel
theorem d_Nm_houses_30 : decode b_Nm_houses 30 = .ok (.astore_n 2, 1) := by decide +kernel
theorem d_Nm_houses_31 : decode b_Nm_houses 31 = .ok (.aload_n 2, 1) := by decide +kernel
theorem d_Nm_houses_32 : decode b_Nm_houses 32 = .ok (.invokevirtual 195, 3) := by decide +kernel
theorem d_Nm_houses_35 : decode b_Nm_houses 35 = .ok (.istore_n 3, 1) := by decide +kernel
theorem d_Nm_houses_36 : decode b_Nm_houses 36 = .ok (.aload_n 2, 1) := by decide +kernel
theorem d_Nm_houses_37 : decode b_Nm_houses 37 = .ok (.iload_n 3, 1) := by decide +kernel
theorem d_Nm_houses_38 : decode b_Nm_houses 38 = .ok (.bipush 8, 2) := by decide +kernel
theorem d_Nm_houses_40 : decode b_Nm_houses 40 = .ok (.idiv, 1) := by decide +kernel
theorem d_Nm_houses_41 : decode b_Nm_houses 41 = .ok (.iload_n 3, 1) := by decide +kernel
theorem d_Nm_houses_42 : decode b_Nm_houses 42 = .ok (.bipush 8, 2) := by decide +kernel
theorem d_Nm_houses_44 : decode b_Nm_houses 44 = .ok (.irem, 1) := by decide +kernel
theorem d_Nm_houses_45 : decode b_Nm_houses 45 = .ok (.invokevirtual 198, 3) := by decide +kernel
theorem d_Nm_houses_48 : decode b_Nm_houses 48 = .ok (.iload_n 1, 1) := by decide +kernel
theorem d_Nm_houses_49 : decode b_Nm_houses 49 = .ok (.isub, 1) := by decide +kernel
theorem d_Nm_houses_50 : decode b_Nm_houses 50 = .ok (.istore 4, 2) := by decide +kernel
theorem d_Nm_houses_52 : decode b_Nm_houses 52 = .ok (.iload 4, 2) := by decide +kernel
theorem d_Nm_houses_54 : decode b_Nm_houses 54 = .ok (.aload_n 2, 1) := by decide +kernel
theorem d_Nm_houses_55 : decode b_Nm_houses 55 = .ok (.aload_n 2, 1) := by decide +kernel
theorem d_Nm_houses_56 : decode b_Nm_houses 56 = .ok (.iconst (-1), 1) := by decide +kernel
theorem d_Nm_houses_57 : decode b_Nm_houses 57 = .ok (.invokevirtual 171, 3) := by decide +kernel
theorem d_Nm_houses_60 : decode b_Nm_houses 60 = .ok (.iconst (-1), 1) := by decide +kernel
theorem d_Nm_houses_61 : decode b_Nm_houses 61 = .ok (.invokevirtual 134, 3) := by decide +kernel
theorem d_Nm_houses_64 : decode b_Nm_houses 64 = .ok (.if_icmp .le 7, 3) := by decide +kernel
theorem d_Nm_houses_67 : decode b_Nm_houses 67 = .ok (.iconst 1, 1) := by decide +kernel
theorem d_Nm_houses_68 : decode b_Nm_houses 68 = .ok (.goto 4, 3) := by decide +kernel
theorem d_Nm_houses_71 : decode b_Nm_houses 71 = .ok (.iconst 2, 1) := by decide +kernel
theorem d_Nm_houses_72 : decode b_Nm_houses 72 = .ok (.ireturn, 1) := by decide +kernel
theorem d_Nm_waits_0 : decode b_Nm_waits 0 = .ok (.aload_n 0, 1) := by decide +kernel
theorem d_Nm_waits_1 : decode b_Nm_waits 1 = .ok (.getfield 48, 3) := by decide +kernel
theorem d_Nm_waits_4 : decode b_Nm_waits 4 = .ok (.iload_n 1, 1) := by decide +kernel
theorem d_Nm_waits_5 : decode b_Nm_waits 5 = .ok (.invokevirtual 122, 3) := by decide +kernel
theorem d_Nm_waits_8 : decode b_Nm_waits 8 = .ok (.ifCond .eq 12, 3) := by decide +kernel
theorem d_Nm_waits_11 : decode b_Nm_waits 11 = .ok (.iload_n 2, 1) := by decide +kernel
theorem d_Nm_waits_12 : decode b_Nm_waits 12 = .ok (.iconst 0, 1) := by decide +kernel
theorem d_Nm_waits_13 : decode b_Nm_waits 13 = .ok (.iconst 1, 1) := by decide +kernel
theorem d_Nm_waits_14 : decode b_Nm_waits 14 = .ok (.invokestatic 86, 3) := by decide +kernel
theorem d_Nm_waits_17 : decode b_Nm_waits 17 = .ok (.ifCond .eq 5, 3) := by decide +kernel
theorem d_Nm_waits_20 : decode b_Nm_waits 20 = .ok (.iconst (-1), 1) := by decide +kernel
theorem d_Nm_waits_21 : decode b_Nm_waits 21 = .ok (.ireturn, 1) := by decide +kernel
theorem d_Nm_waits_22 : decode b_Nm_waits 22 = .ok (.aload_n 0, 1) := by decide +kernel
theorem d_Nm_waits_23 : decode b_Nm_waits 23 = .ok (.getfield 19, 3) := by decide +kernel
theorem d_Nm_waits_26 : decode b_Nm_waits 26 = .ok (.invokevirtual 141, 3) := by decide +kernel
theorem d_Nm_waits_29 : decode b_Nm_waits 29 = .ok (.ifCond .ne 14, 3) := by decide +kernel
theorem d_Nm_waits_32 : decode b_Nm_waits 32 = .ok (.aload_n 0, 1) := by decide +kernel
theorem d_Nm_waits_33 : decode b_Nm_waits 33 = .ok (.getfield 19, 3) := by decide +kernel
theorem d_Nm_waits_36 : decode b_Nm_waits 36 = .ok (.iload_n 1, 1) := by decide +kernel
theorem d_Nm_waits_37 : decode b_Nm_waits 37 = .ok (.invokevirtual 128, 3) := by decide +kernel
theorem d_Nm_waits_40 : decode b_Nm_waits 40 = .ok (.ifCond .eq 6, 3) := by decide +kernel
theorem d_Nm_waits_43 : decode b_Nm_waits 43 = .ok (.bipush (-4), 2) := by decide +kernel
theorem d_Nm_waits_45 : decode b_Nm_waits 45 = .ok (.ireturn, 1) := by decide +kernel
theorem d_Nm_waits_46 : decode b_Nm_waits 46 = .ok (.bipush (-4), 2) := by decide +kernel
theorem d_Nm_waits_48 : decode b_Nm_waits 48 = .ok (.istore_n 3, 1) := by decide +kernel
theorem d_Nm_waits_49 : decode b_Nm_waits 49 = .ok (.bipush (-4), 2) := by decide +kernel
theorem d_Nm_waits_51 : decode b_Nm_waits 51 = .ok (.istore 4, 2) := by decide +kernel
theorem d_Nm_waits_53 : decode b_Nm_waits 53 = .ok (.aload_n 0, 1) := by decide +kernel
theorem d_Nm_waits_54 : decode b_Nm_waits 54 = .ok (.getfield 19, 3) := by decide +kernel
theorem d_Nm_waits_57 : decode b_Nm_waits 57 = .ok (.getfield 145, 3) := by decide +kernel
theorem d_Nm_waits_60 : decode b_Nm_waits 60 = .ok (.istore 5, 2) := by decide +kernel
theorem d_Nm_waits_62 : decode b_Nm_waits 62 = .ok (.iload 5, 2) := by decide +kernel
theorem d_Nm_waits_64 : decode b_Nm_waits 64 = .ok (.bipush 99, 2) := by decide +kernel
theorem d_Nm_waits_66 : decode b_Nm_waits 66 = .ok (.if_icmp .gt 56, 3) := by decide +kernel
theorem d_Nm_waits_69 : decode b_Nm_waits 69 = .ok (.aload_n 0, 1) := by decide +kernel
theorem d_Nm_waits_70 : decode b_Nm_waits 70 = .ok (.iload 5, 2) := by decide +kernel
theorem d_Nm_waits_72 : decode b_Nm_waits 72 = .ok (.aload_n 0, 1) := by decide +kernel
theorem d_Nm_waits_73 : decode b_Nm_waits 73 = .ok (.getfield 19, 3) := by decide +kernel
theorem d_Nm_waits_76 : decode b_Nm_waits 76 = .ok (.getfield 201, 3) := by decide +kernel
theorem d_Nm_waits_79 : decode b_Nm_waits 79 = .ok (.invokevirtual 204, 3) := by decide +kernel
theorem d_Nm_waits_82 : decode b_Nm_waits 82 = .ok (.iload_n 1, 1) := by decide +kernel
theorem d_Nm_waits_83 : decode b_Nm_waits 83 = .ok (.iconst (-1), 1) := by decide +kernel
theorem d_Nm_waits_84 : decode b_Nm_waits 84 = .ok (.invokevirtual 134, 3) := by decide +kernel
theorem d_Nm_waits_87 : decode b_Nm_waits 87 = .ok (.istore 6, 2) := by decide +kernel
theorem d_Nm_waits_89 : decode b_Nm_waits 89 = .ok (.aload_n 0, 1) := by decide +kernel
theorem d_Nm_waits_90 : decode b_Nm_waits 90 = .ok (.getfield 48, 3) := by decide +kernel
theorem d_Nm_waits_93 : decode b_Nm_waits 93 = .ok (.iload_n 1, 1) := by decide +kernel
theorem d_Nm_waits_94 : decode b_Nm_waits 94 = .ok (.iload 5, 2) := by decide +kernel
theorem d_Nm_waits_96 : decode b_Nm_waits 96 = .ok (.invokevirtual 160, 3) := by decide +kernel
theorem d_Nm_waits_99 : decode b_Nm_waits 99 = .ok (.ifCond .eq 17, 3) := by decide +kernel
theorem d_Nm_waits_102 : decode b_Nm_waits 102 = .ok (.iload 6, 2) := by decide +kernel
theorem d_Nm_waits_104 : decode b_Nm_waits 104 = .ok (.iload 4, 2) := by decide +kernel
theorem d_Nm_waits_106 : decode b_Nm_waits 106 = .ok (.if_icmp .le 10, 3) := by decide +kernel
theorem d_Nm_waits_109 : decode b_Nm_waits 109 = .ok (.iload 5, 2) := by decide +kernel
theorem d_Nm_waits_111 : decode b_Nm_waits 111 = .ok (.istore_n 3, 1) := by decide +kernel
theorem d_Nm_waits_112 : decode b_Nm_waits 112 = .ok (.iload 6, 2) := by decide +kernel
theorem d_Nm_waits_114 : decode b_Nm_waits 114 = .ok (.istore 4, 2) := by decide +kernel
theorem d_Nm_waits_116 : decode b_Nm_waits 116 = .ok (.iinc 5 1, 3) := by decide +kernel
theorem d_Nm_waits_119 : decode b_Nm_waits 119 = .ok (.goto (-57), 3) := by decide +kernel
theorem d_Nm_waits_122 : decode b_Nm_waits 122 = .ok (.iload_n 2, 1) := by decide +kernel
theorem d_Nm_waits_123 : decode b_Nm_waits 123 = .ok (.ifCond .ne 7, 3) := by decide +kernel
theorem d_Nm_waits_126 : decode b_Nm_waits 126 = .ok (.iload_n 3, 1) := by decide +kernel
theorem d_Nm_waits_127 : decode b_Nm_waits 127 = .ok (.goto 5, 3) := by decide +kernel
theorem d_Nm_waits_130 : decode b_Nm_waits 130 = .ok (.iload 4, 2) := by decide +kernel
theorem d_Nm_waits_132 : decode b_Nm_waits 132 = .ok (.ireturn, 1) := by decide +kernel
theorem d_Nm_heard_0 : decode b_Nm_heard 0 = .ok (.aload_n 0, 1) := by decide +kernel
theorem d_Nm_heard_1 : decode b_Nm_heard 1 = .ok (.getfield 48, 3) := by decide +kernel
theorem d_Nm_heard_4 : decode b_Nm_heard 4 = .ok (.iload_n 1, 1) := by decide +kernel
theorem d_Nm_heard_5 : decode b_Nm_heard 5 = .ok (.invokevirtual 100, 3) := by decide +kernel
theorem d_Nm_heard_8 : decode b_Nm_heard 8 = .ok (.ifCond .eq 23, 3) := by decide +kernel
theorem d_Nm_heard_11 : decode b_Nm_heard 11 = .ok (.aload_n 0, 1) := by decide +kernel
theorem d_Nm_heard_12 : decode b_Nm_heard 12 = .ok (.getfield 48, 3) := by decide +kernel
theorem d_Nm_heard_15 : decode b_Nm_heard 15 = .ok (.iload_n 2, 1) := by decide +kernel
theorem d_Nm_heard_16 : decode b_Nm_heard 16 = .ok (.invokevirtual 122, 3) := by decide +kernel
theorem d_Nm_heard_19 : decode b_Nm_heard 19 = .ok (.ifCond .eq 12, 3) := by decide +kernel
theorem d_Nm_heard_22 : decode b_Nm_heard 22 = .ok (.iload_n 3, 1) := by decide +kernel
theorem d_Nm_heard_23 : decode b_Nm_heard 23 = .ok (.iconst 0, 1) := by decide +kernel
theorem d_Nm_heard_24 : decode b_Nm_heard 24 = .ok (.iconst 1, 1) := by decide +kernel
theorem d_Nm_heard_25 : decode b_Nm_heard 25 = .ok (.invokestatic 86, 3) := by decide +kernel
theorem d_Nm_heard_28 : decode b_Nm_heard 28 = .ok (.ifCond .eq 5, 3) := by decide +kernel
theorem d_Nm_heard_31 : decode b_Nm_heard 31 = .ok (.iconst (-1), 1) := by decide +kernel
theorem d_Nm_heard_32 : decode b_Nm_heard 32 = .ok (.ireturn, 1) := by decide +kernel
theorem d_Nm_heard_33 : decode b_Nm_heard 33 = .ok (.aload_n 0, 1) := by decide +kernel
theorem d_Nm_heard_34 : decode b_Nm_heard 34 = .ok (.getfield 41, 3) := by decide +kernel
theorem d_Nm_heard_37 : decode b_Nm_heard 37 = .ok (.invokevirtual 208, 3) := by decide +kernel
theorem d_Nm_heard_40 : decode b_Nm_heard 40 = .ok (.astore 4, 2) := by decide +kernel
theorem d_Nm_heard_42 : decode b_Nm_heard 42 = .ok (.aload 4, 2) := by decide +kernel
theorem d_Nm_heard_44 : decode b_Nm_heard 44 = .ok (.ifnonnull 6, 3) := by decide +kernel
theorem d_Nm_heard_47 : decode b_Nm_heard 47 = .ok (.bipush (-3), 2) := by decide +kernel
theorem d_Nm_heard_49 : decode b_Nm_heard 49 = .ok (.ireturn, 1) := by decide +kernel
theorem d_Nm_heard_50 : decode b_Nm_heard 50 = .ok (.aload 4, 2) := by decide +kernel
theorem d_Nm_heard_52 : decode b_Nm_heard 52 = .ok (.iload_n 1, 1) := by decide +kernel
theorem d_Nm_heard_53 : decode b_Nm_heard 53 = .ok (.putfield 212, 3) := by decide +kernel
theorem d_Nm_heard_56 : decode b_Nm_heard 56 = .ok (.aload 4, 2) := by decide +kernel
theorem d_Nm_heard_58 : decode b_Nm_heard 58 = .ok (.iload_n 2, 1) := by decide +kernel
theorem d_Nm_heard_59 : decode b_Nm_heard 59 = .ok (.putfield 217, 3) := by decide +kernel
theorem d_Nm_heard_62 : decode b_Nm_heard 62 = .ok (.aload 4, 2) := by decide +kernel
theorem d_Nm_heard_64 : decode b_Nm_heard 64 = .ok (.iload_n 3, 1) := by decide +kernel
theorem d_Nm_heard_65 : decode b_Nm_heard 65 = .ok (.iconst 1, 1) := by decide +kernel
theorem d_Nm_heard_66 : decode b_Nm_heard 66 = .ok (.if_icmp .ne 7, 3) := by decide +kernel
theorem d_Nm_heard_69 : decode b_Nm_heard 69 = .ok (.iconst 1, 1) := by decide +kernel
theorem d_Nm_heard_70 : decode b_Nm_heard 70 = .ok (.goto 4, 3) := by decide +kernel
theorem d_Nm_heard_73 : decode b_Nm_heard 73 = .ok (.iconst 0, 1) := by decide +kernel
theorem d_Nm_heard_74 : decode b_Nm_heard 74 = .ok (.putfield 220, 3) := by decide +kernel
theorem d_Nm_heard_77 : decode b_Nm_heard 77 = .ok (.aload 4, 2) := by decide +kernel
theorem d_Nm_heard_79 : decode b_Nm_heard 79 = .ok (.aload_n 0, 1) := by decide +kernel
theorem d_Nm_heard_80 : decode b_Nm_heard 80 = .ok (.getfield 19, 3) := by decide +kernel
theorem d_Nm_heard_83 : decode b_Nm_heard 83 = .ok (.getfield 145, 3) := by decide +kernel
theorem d_Nm_heard_86 : decode b_Nm_heard 86 = .ok (.putfield 224, 3) := by decide +kernel
theorem d_Nm_heard_89 : decode b_Nm_heard 89 = .ok (.aload 4, 2) := by decide +kernel
theorem d_Nm_heard_91 : decode b_Nm_heard 91 = .ok (.aload_n 0, 1) := by decide +kernel
theorem d_Nm_heard_92 : decode b_Nm_heard 92 = .ok (.getfield 19, 3) := by decide +kernel
theorem d_Nm_heard_95 : decode b_Nm_heard 95 = .ok (.getfield 201, 3) := by decide +kernel
theorem d_Nm_heard_98 : decode b_Nm_heard 98 = .ok (.putfield 225, 3) := by decide +kernel
theorem d_Nm_heard_101 : decode b_Nm_heard 101 = .ok (.aload_n 0, 1) := by decide +kernel
theorem d_Nm_heard_102 : decode b_Nm_heard 102 = .ok (.getfield 41, 3) := by decide +kernel
theorem d_Nm_heard_105 : decode b_Nm_heard 105 = .ok (.getfield 99, 3) := by decide +kernel
theorem d_Nm_heard_108 : decode b_Nm_heard 108 = .ok (.ireturn, 1) := by decide +kernel
theorem d_Nm_forget_0 : decode b_Nm_forget 0 = .ok (.aload_n 0, 1) := by decide +kernel
theorem d_Nm_forget_1 : decode b_Nm_forget 1 = .ok (.getfield 41, 3) := by decide +kernel
theorem d_Nm_forget_4 : decode b_Nm_forget 4 = .ok (.getfield 99, 3) := by decide +kernel
theorem d_Nm_forget_7 : decode b_Nm_forget 7 = .ok (.istore_n 1, 1) := by decide +kernel
theorem d_Nm_forget_8 : decode b_Nm_forget 8 = .ok (.aload_n 0, 1) := by decide +kernel
theorem d_Nm_forget_9 : decode b_Nm_forget 9 = .ok (.getfield 41, 3) := by decide +kernel
theorem d_Nm_forget_12 : decode b_Nm_forget 12 = .ok (.iconst 0, 1) := by decide +kernel
theorem d_Nm_forget_13 : decode b_Nm_forget 13 = .ok (.putfield 99, 3) := by decide +kernel
theorem d_Nm_forget_16 : decode b_Nm_forget 16 = .ok (.iload_n 1, 1) := by decide +kernel
theorem d_Nm_forget_17 : decode b_Nm_forget 17 = .ok (.ireturn, 1) := by decide +kernel
theorem d_Nm_may_0 : decode b_Nm_may 0 = .ok (.aload_n 0, 1) := by decide +kernel
theorem d_Nm_may_1 : decode b_Nm_may 1 = .ok (.getfield 48, 3) := by decide +kernel
theorem d_Nm_may_4 : decode b_Nm_may 4 = .ok (.iload_n 1, 1) := by decide +kernel
theorem d_Nm_may_5 : decode b_Nm_may 5 = .ok (.invokevirtual 100, 3) := by decide +kernel
theorem d_Nm_may_8 : decode b_Nm_may 8 = .ok (.ifCond .ne 5, 3) := by decide +kernel
theorem d_Nm_may_11 : decode b_Nm_may 11 = .ok (.iconst (-1), 1) := by decide +kernel
theorem d_Nm_may_12 : decode b_Nm_may 12 = .ok (.ireturn, 1) := by decide +kernel
theorem d_Nm_may_13 : decode b_Nm_may 13 = .ok (.iconst 0, 1) := by decide +kernel
theorem d_Nm_may_14 : decode b_Nm_may 14 = .ok (.istore_n 2, 1) := by decide +kernel
theorem d_Nm_may_15 : decode b_Nm_may 15 = .ok (.iconst 0, 1) := by decide +kernel
theorem d_Nm_may_16 : decode b_Nm_may 16 = .ok (.istore_n 3, 1) := by decide +kernel
theorem d_Nm_may_17 : decode b_Nm_may 17 = .ok (.iload_n 3, 1) := by decide +kernel
theorem d_Nm_may_18 : decode b_Nm_may 18 = .ok (.iconst 3, 1) := by decide +kernel
theorem d_Nm_may_19 : decode b_Nm_may 19 = .ok (.if_icmp .gt 24, 3) := by decide +kernel
theorem d_Nm_may_22 : decode b_Nm_may 22 = .ok (.aload_n 0, 1) := by decide +kernel
theorem d_Nm_may_23 : decode b_Nm_may 23 = .ok (.iload_n 1, 1) := by decide +kernel
theorem d_Nm_may_24 : decode b_Nm_may 24 = .ok (.iload_n 3, 1) := by decide +kernel
theorem d_Nm_may_25 : decode b_Nm_may 25 = .ok (.invokevirtual 226, 3) := by decide +kernel
theorem d_Nm_may_28 : decode b_Nm_may 28 = .ok (.ifCond .eq 9, 3) := by decide +kernel
theorem d_Nm_may_31 : decode b_Nm_may 31 = .ok (.iload_n 2, 1) := by decide +kernel
theorem d_Nm_may_32 : decode b_Nm_may 32 = .ok (.iconst 1, 1) := by decide +kernel
theorem d_Nm_may_33 : decode b_Nm_may 33 = .ok (.iload_n 3, 1) := by decide +kernel
theorem d_Nm_may_34 : decode b_Nm_may 34 = .ok (.ishl, 1) := by decide +kernel
theorem d_Nm_may_35 : decode b_Nm_may 35 = .ok (.ior, 1) := by decide +kernel
theorem d_Nm_may_36 : decode b_Nm_may 36 = .ok (.istore_n 2, 1) := by decide +kernel
theorem d_Nm_may_37 : decode b_Nm_may 37 = .ok (.iinc 3 1, 3) := by decide +kernel
theorem d_Nm_may_40 : decode b_Nm_may 40 = .ok (.goto (-23), 3) := by decide +kernel
theorem d_Nm_may_43 : decode b_Nm_may 43 = .ok (.iload_n 2, 1) := by decide +kernel
theorem d_Nm_may_44 : decode b_Nm_may 44 = .ok (.ireturn, 1) := by decide +kernel
theorem d_Nm_suits_0 : decode b_Nm_suits 0 = .ok (.aload_n 0, 1) := by decide +kernel
theorem d_Nm_suits_1 : decode b_Nm_suits 1 = .ok (.iload_n 1, 1) := by decide +kernel
theorem d_Nm_suits_2 : decode b_Nm_suits 2 = .ok (.invokevirtual 180, 3) := by decide +kernel
theorem d_Nm_suits_5 : decode b_Nm_suits 5 = .ok (.ifCond .ne 5, 3) := by decide +kernel
theorem d_Nm_suits_8 : decode b_Nm_suits 8 = .ok (.iconst (-1), 1) := by decide +kernel
theorem d_Nm_suits_9 : decode b_Nm_suits 9 = .ok (.ireturn, 1) := by decide +kernel
theorem d_Nm_suits_10 : decode b_Nm_suits 10 = .ok (.aload_n 0, 1) := by decide +kernel
theorem d_Nm_suits_11 : decode b_Nm_suits 11 = .ok (.invokevirtual 112, 3) := by decide +kernel
theorem d_Nm_suits_14 : decode b_Nm_suits 14 = .ok (.astore_n 2, 1) := by decide +kernel
theorem d_Nm_suits_15 : decode b_Nm_suits 15 = .ok (.aload_n 2, 1) := by decide +kernel
theorem d_Nm_suits_16 : decode b_Nm_suits 16 = .ok (.iconst (-1), 1) := by decide +kernel
theorem d_Nm_suits_17 : decode b_Nm_suits 17 = .ok (.invokevirtual 171, 3) := by decide +kernel
theorem d_Nm_suits_20 : decode b_Nm_suits 20 = .ok (.istore_n 3, 1) := by decide +kernel
theorem d_Nm_suits_21 : decode b_Nm_suits 21 = .ok (.iconst 0, 1) := by decide +kernel
theorem d_Nm_suits_22 : decode b_Nm_suits 22 = .ok (.istore 4, 2) := by decide +kernel
theorem d_Nm_suits_24 : decode b_Nm_suits 24 = .ok (.iconst 0, 1) := by decide +kernel
theorem d_Nm_suits_25 : decode b_Nm_suits 25 = .ok (.istore 5, 2) := by decide +kernel
theorem d_Nm_suits_27 : decode b_Nm_suits 27 = .ok (.iload 5, 2) := by decide +kernel
theorem d_Nm_suits_29 : decode b_Nm_suits 29 = .ok (.aload_n 0, 1) := by decide +kernel
theorem d_Nm_suits_30 : decode b_Nm_suits 30 = .ok (.getfield 48, 3) := by decide +kernel
theorem d_Nm_suits_33 : decode b_Nm_suits 33 = .ok (.getfield 90, 3) := by decide +kernel
theorem d_Nm_suits_36 : decode b_Nm_suits 36 = .ok (.if_icmp .ge 35, 3) := by decide +kernel
theorem d_Nm_suits_39 : decode b_Nm_suits 39 = .ok (.aload_n 2, 1) := by decide +kernel
theorem d_Nm_suits_40 : decode b_Nm_suits 40 = .ok (.iload 5, 2) := by decide +kernel
theorem d_Nm_suits_42 : decode b_Nm_suits 42 = .ok (.iload_n 1, 1) := by decide +kernel
theorem d_Nm_suits_43 : decode b_Nm_suits 43 = .ok (.invokevirtual 138, 3) := by decide +kernel
theorem d_Nm_suits_46 : decode b_Nm_suits 46 = .ok (.aload_n 2, 1) := by decide +kernel
theorem d_Nm_suits_47 : decode b_Nm_suits 47 = .ok (.iload 5, 2) := by decide +kernel
theorem d_Nm_suits_49 : decode b_Nm_suits 49 = .ok (.iload_n 3, 1) := by decide +kernel
theorem d_Nm_suits_50 : decode b_Nm_suits 50 = .ok (.invokevirtual 138, 3) := by decide +kernel
theorem d_Nm_suits_53 : decode b_Nm_suits 53 = .ok (.if_icmp .lt 12, 3) := by decide +kernel
theorem d_Nm_suits_56 : decode b_Nm_suits 56 = .ok (.iload 4, 2) := by decide +kernel
theorem d_Nm_suits_58 : decode b_Nm_suits 58 = .ok (.iconst 1, 1) := by decide +kernel
theorem d_Nm_suits_59 : decode b_Nm_suits 59 = .ok (.iload 5, 2) := by decide +kernel
theorem d_Nm_suits_61 : decode b_Nm_suits 61 = .ok (.ishl, 1) := by decide +kernel
theorem d_Nm_suits_62 : decode b_Nm_suits 62 = .ok (.ior, 1) := by decide +kernel
theorem d_Nm_suits_63 : decode b_Nm_suits 63 = .ok (.istore 4, 2) := by decide +kernel
theorem d_Nm_suits_65 : decode b_Nm_suits 65 = .ok (.iinc 5 1, 3) := by decide +kernel
theorem d_Nm_suits_68 : decode b_Nm_suits 68 = .ok (.goto (-41), 3) := by decide +kernel
theorem d_Nm_suits_71 : decode b_Nm_suits 71 = .ok (.iload 4, 2) := by decide +kernel
theorem d_Nm_suits_73 : decode b_Nm_suits 73 = .ok (.ireturn, 1) := by decide +kernel
theorem d_Nm_against_0 : decode b_Nm_against 0 = .ok (.aload_n 0, 1) := by decide +kernel
theorem d_Nm_against_1 : decode b_Nm_against 1 = .ok (.getfield 48, 3) := by decide +kernel
theorem d_Nm_against_4 : decode b_Nm_against 4 = .ok (.iload_n 1, 1) := by decide +kernel
theorem d_Nm_against_5 : decode b_Nm_against 5 = .ok (.invokevirtual 122, 3) := by decide +kernel
theorem d_Nm_against_8 : decode b_Nm_against 8 = .ok (.ifCond .eq 12, 3) := by decide +kernel
theorem d_Nm_against_11 : decode b_Nm_against 11 = .ok (.iload_n 2, 1) := by decide +kernel
theorem d_Nm_against_12 : decode b_Nm_against 12 = .ok (.iconst 0, 1) := by decide +kernel
theorem d_Nm_against_13 : decode b_Nm_against 13 = .ok (.iconst 1, 1) := by decide +kernel
theorem d_Nm_against_14 : decode b_Nm_against 14 = .ok (.invokestatic 86, 3) := by decide +kernel
theorem d_Nm_against_17 : decode b_Nm_against 17 = .ok (.ifCond .eq 5, 3) := by decide +kernel
theorem d_Nm_against_20 : decode b_Nm_against 20 = .ok (.iconst (-1), 1) := by decide +kernel
theorem d_Nm_against_21 : decode b_Nm_against 21 = .ok (.ireturn, 1) := by decide +kernel
theorem d_Nm_against_22 : decode b_Nm_against 22 = .ok (.iload_n 2, 1) := by decide +kernel
theorem d_Nm_against_23 : decode b_Nm_against 23 = .ok (.ifCond .ne 14, 3) := by decide +kernel
theorem d_Nm_against_26 : decode b_Nm_against 26 = .ok (.aload_n 0, 1) := by decide +kernel
theorem d_Nm_against_27 : decode b_Nm_against 27 = .ok (.invokevirtual 112, 3) := by decide +kernel
theorem d_Nm_against_30 : decode b_Nm_against 30 = .ok (.iload_n 1, 1) := by decide +kernel
