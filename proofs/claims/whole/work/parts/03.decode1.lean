theorem dX11_text_4 : decode cX11_text 4 = .ok (.getfield 131, 3) := by decide +kernel
theorem dX11_text_7 : decode cX11_text 7 = .ok (.iconst 4, 1) := by decide +kernel
theorem dX11_text_8 : decode cX11_text 8 = .ok (.if_icmp .lt 5, 3) := by decide +kernel
theorem dX11_text_11 : decode cX11_text 11 = .ok (.iconst (-1), 1) := by decide +kernel
theorem dX11_text_12 : decode cX11_text 12 = .ok (.ireturn, 1) := by decide +kernel
theorem dX11_text_13 : decode cX11_text 13 = .ok (.aload_n 0, 1) := by decide +kernel
theorem dX11_text_14 : decode cX11_text 14 = .ok (.getfield 51, 3) := by decide +kernel
theorem dX11_text_17 : decode cX11_text 17 = .ok (.invokevirtual 134, 3) := by decide +kernel
theorem dX11_text_20 : decode cX11_text 20 = .ok (.istore_n 1, 1) := by decide +kernel
theorem dX11_text_21 : decode cX11_text 21 = .ok (.aload_n 0, 1) := by decide +kernel
theorem dX11_text_22 : decode cX11_text 22 = .ok (.getfield 42, 3) := by decide +kernel
theorem dX11_text_25 : decode cX11_text 25 = .ok (.iconst 0, 1) := by decide +kernel
theorem dX11_text_26 : decode cX11_text 26 = .ok (.putfield 124, 3) := by decide +kernel
theorem dX11_text_29 : decode cX11_text 29 = .ok (.iload_n 1, 1) := by decide +kernel
theorem dX11_text_30 : decode cX11_text 30 = .ok (.ifCond .ne 5, 3) := by decide +kernel
theorem dX11_text_33 : decode cX11_text 33 = .ok (.iconst (-1), 1) := by decide +kernel
theorem dX11_text_34 : decode cX11_text 34 = .ok (.ireturn, 1) := by decide +kernel
theorem dX11_text_35 : decode cX11_text 35 = .ok (.aload_n 0, 1) := by decide +kernel
theorem dX11_text_36 : decode cX11_text 36 = .ok (.getfield 10, 3) := by decide +kernel
theorem dX11_text_39 : decode cX11_text 39 = .ok (.getfield 138, 3) := by decide +kernel
theorem dX11_text_42 : decode cX11_text 42 = .ok (.aload_n 0, 1) := by decide +kernel
theorem dX11_text_43 : decode cX11_text 43 = .ok (.getfield 10, 3) := by decide +kernel
theorem dX11_text_46 : decode cX11_text 46 = .ok (.getfield 131, 3) := by decide +kernel
theorem dX11_text_49 : decode cX11_text 49 = .ok (.aload_n 0, 1) := by decide +kernel
theorem dX11_text_50 : decode cX11_text 50 = .ok (.getfield 51, 3) := by decide +kernel
theorem dX11_text_53 : decode cX11_text 53 = .ok (.invokevirtual 142, 3) := by decide +kernel
theorem dX11_text_56 : decode cX11_text 56 = .ok (.aastore, 1) := by decide +kernel
theorem dX11_text_57 : decode cX11_text 57 = .ok (.aload_n 0, 1) := by decide +kernel
theorem dX11_text_58 : decode cX11_text 58 = .ok (.getfield 10, 3) := by decide +kernel
theorem dX11_text_61 : decode cX11_text 61 = .ok (.dup, 1) := by decide +kernel
theorem dX11_text_62 : decode cX11_text 62 = .ok (.getfield 131, 3) := by decide +kernel
theorem dX11_text_65 : decode cX11_text 65 = .ok (.iconst 1, 1) := by decide +kernel
theorem dX11_text_66 : decode cX11_text 66 = .ok (.iadd, 1) := by decide +kernel
theorem dX11_text_67 : decode cX11_text 67 = .ok (.putfield 131, 3) := by decide +kernel
theorem dX11_text_70 : decode cX11_text 70 = .ok (.aload_n 0, 1) := by decide +kernel
theorem dX11_text_71 : decode cX11_text 71 = .ok (.getfield 10, 3) := by decide +kernel
theorem dX11_text_74 : decode cX11_text 74 = .ok (.getfield 131, 3) := by decide +kernel
theorem dX11_text_77 : decode cX11_text 77 = .ok (.iconst 1, 1) := by decide +kernel
theorem dX11_text_78 : decode cX11_text 78 = .ok (.isub, 1) := by decide +kernel
theorem dX11_text_79 : decode cX11_text 79 = .ok (.ireturn, 1) := by decide +kernel
theorem dX11_fault_0 : decode cX11_fault 0 = .ok (.iload_n 1, 1) := by decide +kernel
theorem dX11_fault_1 : decode cX11_fault 1 = .ok (.ifCond .ne 11, 3) := by decide +kernel
theorem dX11_fault_4 : decode cX11_fault 4 = .ok (.aload_n 0, 1) := by decide +kernel
theorem dX11_fault_5 : decode cX11_fault 5 = .ok (.getfield 51, 3) := by decide +kernel
theorem dX11_fault_8 : decode cX11_fault 8 = .ok (.getfield 146, 3) := by decide +kernel
theorem dX11_fault_11 : decode cX11_fault 11 = .ok (.ireturn, 1) := by decide +kernel
theorem dX11_fault_12 : decode cX11_fault 12 = .ok (.iload_n 1, 1) := by decide +kernel
theorem dX11_fault_13 : decode cX11_fault 13 = .ok (.iconst 1, 1) := by decide +kernel
theorem dX11_fault_14 : decode cX11_fault 14 = .ok (.if_icmp .ne 13, 3) := by decide +kernel
theorem dX11_fault_17 : decode cX11_fault 17 = .ok (.aload_n 0, 1) := by decide +kernel
theorem dX11_fault_18 : decode cX11_fault 18 = .ok (.getfield 51, 3) := by decide +kernel
theorem dX11_fault_21 : decode cX11_fault 21 = .ok (.getfield 149, 3) := by decide +kernel
theorem dX11_fault_24 : decode cX11_fault 24 = .ok (.goto 4, 3) := by decide +kernel
theorem dX11_fault_27 : decode cX11_fault 27 = .ok (.iconst (-1), 1) := by decide +kernel
theorem dX11_fault_28 : decode cX11_fault 28 = .ok (.ireturn, 1) := by decide +kernel
theorem dX11_by_0 : decode cX11_by 0 = .ok (.iload_n 1, 1) := by decide +kernel
theorem dX11_by_1 : decode cX11_by 1 = .ok (.iconst (-1), 1) := by decide +kernel
theorem dX11_by_2 : decode cX11_by 2 = .ok (.if_icmp .eq 16, 3) := by decide +kernel
theorem dX11_by_5 : decode cX11_by 5 = .ok (.aload_n 0, 1) := by decide +kernel
theorem dX11_by_6 : decode cX11_by 6 = .ok (.getfield 10, 3) := by decide +kernel
theorem dX11_by_9 : decode cX11_by 9 = .ok (.iload_n 1, 1) := by decide +kernel
theorem dX11_by_10 : decode cX11_by 10 = .ok (.invokevirtual 152, 3) := by decide +kernel
theorem dX11_by_13 : decode cX11_by 13 = .ok (.ifCond .ne 5, 3) := by decide +kernel
theorem dX11_by_16 : decode cX11_by 16 = .ok (.iconst 0, 1) := by decide +kernel
theorem dX11_by_17 : decode cX11_by 17 = .ok (.ireturn, 1) := by decide +kernel
theorem dX11_by_18 : decode cX11_by 18 = .ok (.aload_n 0, 1) := by decide +kernel
theorem dX11_by_19 : decode cX11_by 19 = .ok (.getfield 10, 3) := by decide +kernel
theorem dX11_by_22 : decode cX11_by 22 = .ok (.iload_n 1, 1) := by decide +kernel
theorem dX11_by_23 : decode cX11_by 23 = .ok (.putfield 155, 3) := by decide +kernel
theorem dX11_by_26 : decode cX11_by 26 = .ok (.iconst 1, 1) := by decide +kernel
theorem dX11_by_27 : decode cX11_by 27 = .ok (.ireturn, 1) := by decide +kernel
theorem dX11_sell_0 : decode cX11_sell 0 = .ok (.aload_n 0, 1) := by decide +kernel
theorem dX11_sell_1 : decode cX11_sell 1 = .ok (.getfield 60, 3) := by decide +kernel
theorem dX11_sell_4 : decode cX11_sell 4 = .ok (.aload_n 0, 1) := by decide +kernel
theorem dX11_sell_5 : decode cX11_sell 5 = .ok (.getfield 19, 3) := by decide +kernel
theorem dX11_sell_8 : decode cX11_sell 8 = .ok (.iload_n 1, 1) := by decide +kernel
theorem dX11_sell_9 : decode cX11_sell 9 = .ok (.invokevirtual 158, 3) := by decide +kernel
theorem dX11_sell_12 : decode cX11_sell 12 = .ok (.ifCond .ne 6, 3) := by decide +kernel
theorem dX11_sell_15 : decode cX11_sell 15 = .ok (.bipush (-2), 2) := by decide +kernel
theorem dX11_sell_17 : decode cX11_sell 17 = .ok (.ireturn, 1) := by decide +kernel
theorem dX11_sell_18 : decode cX11_sell 18 = .ok (.aload_n 0, 1) := by decide +kernel
theorem dX11_sell_19 : decode cX11_sell 19 = .ok (.getfield 26, 3) := by decide +kernel
theorem dX11_sell_22 : decode cX11_sell 22 = .ok (.aload_n 0, 1) := by decide +kernel
theorem dX11_sell_23 : decode cX11_sell 23 = .ok (.getfield 19, 3) := by decide +kernel
theorem dX11_sell_26 : decode cX11_sell 26 = .ok (.invokevirtual 162, 3) := by decide +kernel
theorem dX11_sell_29 : decode cX11_sell 29 = .ok (.aload_n 0, 1) := by decide +kernel
theorem dX11_sell_30 : decode cX11_sell 30 = .ok (.getfield 60, 3) := by decide +kernel
theorem dX11_sell_33 : decode cX11_sell 33 = .ok (.aload_n 0, 1) := by decide +kernel
theorem dX11_sell_34 : decode cX11_sell 34 = .ok (.getfield 19, 3) := by decide +kernel
theorem dX11_sell_37 : decode cX11_sell 37 = .ok (.iload_n 1, 1) := by decide +kernel
theorem dX11_sell_38 : decode cX11_sell 38 = .ok (.invokevirtual 166, 3) := by decide +kernel
theorem dX11_sell_41 : decode cX11_sell 41 = .ok (.aload_n 0, 1) := by decide +kernel
theorem dX11_sell_42 : decode cX11_sell 42 = .ok (.getfield 60, 3) := by decide +kernel
theorem dX11_sell_45 : decode cX11_sell 45 = .ok (.aload_n 0, 1) := by decide +kernel
theorem dX11_sell_46 : decode cX11_sell 46 = .ok (.getfield 19, 3) := by decide +kernel
theorem dX11_sell_49 : decode cX11_sell 49 = .ok (.iload_n 1, 1) := by decide +kernel
theorem dX11_sell_50 : decode cX11_sell 50 = .ok (.invokevirtual 170, 3) := by decide +kernel
theorem dX11_sell_53 : decode cX11_sell 53 = .ok (.pop, 1) := by decide +kernel
theorem dX11_sell_54 : decode cX11_sell 54 = .ok (.aload_n 0, 1) := by decide +kernel
theorem dX11_sell_55 : decode cX11_sell 55 = .ok (.getfield 60, 3) := by decide +kernel
theorem dX11_sell_58 : decode cX11_sell 58 = .ok (.getfield 173, 3) := by decide +kernel
theorem dX11_sell_61 : decode cX11_sell 61 = .ok (.ireturn, 1) := by decide +kernel
theorem dX11_carry_0 : decode cX11_carry 0 = .ok (.aload_n 0, 1) := by decide +kernel
theorem dX11_carry_1 : decode cX11_carry 1 = .ok (.getfield 60, 3) := by decide +kernel
theorem dX11_carry_4 : decode cX11_carry 4 = .ok (.aload_n 0, 1) := by decide +kernel
theorem dX11_carry_5 : decode cX11_carry 5 = .ok (.getfield 19, 3) := by decide +kernel
theorem dX11_carry_8 : decode cX11_carry 8 = .ok (.iload_n 1, 1) := by decide +kernel
theorem dX11_carry_9 : decode cX11_carry 9 = .ok (.invokevirtual 176, 3) := by decide +kernel
theorem dX11_carry_12 : decode cX11_carry 12 = .ok (.ifCond .ne 5, 3) := by decide +kernel
theorem dX11_carry_15 : decode cX11_carry 15 = .ok (.iconst 0, 1) := by decide +kernel
theorem dX11_carry_16 : decode cX11_carry 16 = .ok (.ireturn, 1) := by decide +kernel
theorem dX11_carry_17 : decode cX11_carry 17 = .ok (.aload_n 0, 1) := by decide +kernel
theorem dX11_carry_18 : decode cX11_carry 18 = .ok (.getfield 26, 3) := by decide +kernel
theorem dX11_carry_21 : decode cX11_carry 21 = .ok (.aload_n 0, 1) := by decide +kernel
theorem dX11_carry_22 : decode cX11_carry 22 = .ok (.getfield 19, 3) := by decide +kernel
theorem dX11_carry_25 : decode cX11_carry 25 = .ok (.invokevirtual 162, 3) := by decide +kernel
theorem dX11_carry_28 : decode cX11_carry 28 = .ok (.aload_n 0, 1) := by decide +kernel
theorem dX11_carry_29 : decode cX11_carry 29 = .ok (.getfield 19, 3) := by decide +kernel
theorem dX11_carry_32 : decode cX11_carry 32 = .ok (.getfield 91, 3) := by decide +kernel
theorem dX11_carry_35 : decode cX11_carry 35 = .ok (.iload_n 1, 1) := by decide +kernel
theorem dX11_carry_36 : decode cX11_carry 36 = .ok (.dup2, 1) := by decide +kernel
theorem dX11_carry_37 : decode cX11_carry 37 = .ok (.iaload, 1) := by decide +kernel
theorem dX11_carry_38 : decode cX11_carry 38 = .ok (.iconst 1, 1) := by decide +kernel
theorem dX11_carry_39 : decode cX11_carry 39 = .ok (.iadd, 1) := by decide +kernel
theorem dX11_carry_40 : decode cX11_carry 40 = .ok (.iastore, 1) := by decide +kernel
theorem dX11_carry_41 : decode cX11_carry 41 = .ok (.iconst 1, 1) := by decide +kernel
theorem dX11_carry_42 : decode cX11_carry 42 = .ok (.ireturn, 1) := by decide +kernel
theorem dX11_burn_0 : decode cX11_burn 0 = .ok (.aload_n 0, 1) := by decide +kernel
theorem dX11_burn_1 : decode cX11_burn 1 = .ok (.getfield 60, 3) := by decide +kernel
theorem dX11_burn_4 : decode cX11_burn 4 = .ok (.aload_n 0, 1) := by decide +kernel
theorem dX11_burn_5 : decode cX11_burn 5 = .ok (.getfield 19, 3) := by decide +kernel
theorem dX11_burn_8 : decode cX11_burn 8 = .ok (.iload_n 1, 1) := by decide +kernel
theorem dX11_burn_9 : decode cX11_burn 9 = .ok (.invokevirtual 179, 3) := by decide +kernel
theorem dX11_burn_12 : decode cX11_burn 12 = .ok (.ifCond .ne 5, 3) := by decide +kernel
theorem dX11_burn_15 : decode cX11_burn 15 = .ok (.iconst 0, 1) := by decide +kernel
theorem dX11_burn_16 : decode cX11_burn 16 = .ok (.ireturn, 1) := by decide +kernel
theorem dX11_burn_17 : decode cX11_burn 17 = .ok (.aload_n 0, 1) := by decide +kernel
theorem dX11_burn_18 : decode cX11_burn 18 = .ok (.getfield 26, 3) := by decide +kernel
theorem dX11_burn_21 : decode cX11_burn 21 = .ok (.aload_n 0, 1) := by decide +kernel
theorem dX11_burn_22 : decode cX11_burn 22 = .ok (.getfield 19, 3) := by decide +kernel
theorem dX11_burn_25 : decode cX11_burn 25 = .ok (.invokevirtual 162, 3) := by decide +kernel
theorem dX11_burn_28 : decode cX11_burn 28 = .ok (.aload_n 0, 1) := by decide +kernel
theorem dX11_burn_29 : decode cX11_burn 29 = .ok (.getfield 19, 3) := by decide +kernel
theorem dX11_burn_32 : decode cX11_burn 32 = .ok (.getfield 182, 3) := by decide +kernel
theorem dX11_burn_35 : decode cX11_burn 35 = .ok (.iload_n 1, 1) := by decide +kernel
theorem dX11_burn_36 : decode cX11_burn 36 = .ok (.iconst 2, 1) := by decide +kernel
theorem dX11_burn_37 : decode cX11_burn 37 = .ok (.iastore, 1) := by decide +kernel
theorem dX11_burn_38 : decode cX11_burn 38 = .ok (.iconst 1, 1) := by decide +kernel
theorem dX11_burn_39 : decode cX11_burn 39 = .ok (.ireturn, 1) := by decide +kernel
theorem dX11_buy_0 : decode cX11_buy 0 = .ok (.aload_n 0, 1) := by decide +kernel
theorem dX11_buy_1 : decode cX11_buy 1 = .ok (.getfield 60, 3) := by decide +kernel
theorem dX11_buy_4 : decode cX11_buy 4 = .ok (.aload_n 0, 1) := by decide +kernel
theorem dX11_buy_5 : decode cX11_buy 5 = .ok (.getfield 19, 3) := by decide +kernel
theorem dX11_buy_8 : decode cX11_buy 8 = .ok (.iload_n 1, 1) := by decide +kernel
theorem dX11_buy_9 : decode cX11_buy 9 = .ok (.iload_n 2, 1) := by decide +kernel
theorem dX11_buy_10 : decode cX11_buy 10 = .ok (.invokevirtual 185, 3) := by decide +kernel
theorem dX11_buy_13 : decode cX11_buy 13 = .ok (.ifCond .ne 5, 3) := by decide +kernel
theorem dX11_buy_16 : decode cX11_buy 16 = .ok (.iconst 0, 1) := by decide +kernel
theorem dX11_buy_17 : decode cX11_buy 17 = .ok (.ireturn, 1) := by decide +kernel
theorem dX11_buy_18 : decode cX11_buy 18 = .ok (.aload_n 0, 1) := by decide +kernel
theorem dX11_buy_19 : decode cX11_buy 19 = .ok (.getfield 26, 3) := by decide +kernel
theorem dX11_buy_22 : decode cX11_buy 22 = .ok (.aload_n 0, 1) := by decide +kernel
theorem dX11_buy_23 : decode cX11_buy 23 = .ok (.getfield 19, 3) := by decide +kernel
theorem dX11_buy_26 : decode cX11_buy 26 = .ok (.invokevirtual 162, 3) := by decide +kernel
theorem dX11_buy_29 : decode cX11_buy 29 = .ok (.aload_n 0, 1) := by decide +kernel
theorem dX11_buy_30 : decode cX11_buy 30 = .ok (.getfield 60, 3) := by decide +kernel
theorem dX11_buy_33 : decode cX11_buy 33 = .ok (.aload_n 0, 1) := by decide +kernel
theorem dX11_buy_34 : decode cX11_buy 34 = .ok (.getfield 19, 3) := by decide +kernel
theorem dX11_buy_37 : decode cX11_buy 37 = .ok (.iload_n 1, 1) := by decide +kernel
theorem dX11_buy_38 : decode cX11_buy 38 = .ok (.iload_n 2, 1) := by decide +kernel
theorem dX11_buy_39 : decode cX11_buy 39 = .ok (.invokevirtual 189, 3) := by decide +kernel
theorem dX11_buy_42 : decode cX11_buy 42 = .ok (.iconst 1, 1) := by decide +kernel
theorem dX11_buy_43 : decode cX11_buy 43 = .ok (.ireturn, 1) := by decide +kernel
theorem dX11_week_0 : decode cX11_week 0 = .ok (.iload_n 1, 1) := by decide +kernel
theorem dX11_week_1 : decode cX11_week 1 = .ok (.iconst 1, 1) := by decide +kernel
theorem dX11_week_2 : decode cX11_week 2 = .ok (.bipush 60, 2) := by decide +kernel
theorem dX11_week_4 : decode cX11_week 4 = .ok (.invokestatic 76, 3) := by decide +kernel
theorem dX11_week_7 : decode cX11_week 7 = .ok (.ifCond .eq 18, 3) := by decide +kernel
theorem dX11_week_10 : decode cX11_week 10 = .ok (.aload_n 0, 1) := by decide +kernel
theorem dX11_week_11 : decode cX11_week 11 = .ok (.getfield 19, 3) := by decide +kernel
theorem dX11_week_14 : decode cX11_week 14 = .ok (.getfield 193, 3) := by decide +kernel
theorem dX11_week_17 : decode cX11_week 17 = .ok (.iload_n 1, 1) := by decide +kernel
theorem dX11_week_18 : decode cX11_week 18 = .ok (.iadd, 1) := by decide +kernel
theorem dX11_week_19 : decode cX11_week 19 = .ok (.sipush 9999, 3) := by decide +kernel
theorem dX11_week_22 : decode cX11_week 22 = .ok (.if_icmp .le 5, 3) := by decide +kernel
theorem dX11_week_25 : decode cX11_week 25 = .ok (.iconst (-1), 1) := by decide +kernel
theorem dX11_week_26 : decode cX11_week 26 = .ok (.ireturn, 1) := by decide +kernel
theorem dX11_week_27 : decode cX11_week 27 = .ok (.aload_n 0, 1) := by decide +kernel
theorem dX11_week_28 : decode cX11_week 28 = .ok (.iload_n 1, 1) := by decide +kernel
theorem dX11_week_29 : decode cX11_week 29 = .ok (.invokevirtual 196, 3) := by decide +kernel
theorem dX11_week_32 : decode cX11_week 32 = .ok (.ireturn, 1) := by decide +kernel
theorem dX11_played_0 : decode cX11_played 0 = .ok (.aload_n 0, 1) := by decide +kernel
theorem dX11_played_1 : decode cX11_played 1 = .ok (.getfield 10, 3) := by decide +kernel
theorem dX11_played_4 : decode cX11_played 4 = .ok (.iload_n 1, 1) := by decide +kernel
theorem dX11_played_5 : decode cX11_played 5 = .ok (.invokevirtual 200, 3) := by decide +kernel
theorem dX11_played_8 : decode cX11_played 8 = .ok (.astore_n 2, 1) := by decide +kernel
theorem dX11_played_9 : decode cX11_played 9 = .ok (.aload_n 2, 1) := by decide +kernel
theorem dX11_played_10 : decode cX11_played 10 = .ok (.ifnonnull 6, 3) := by decide +kernel
theorem dX11_played_13 : decode cX11_played 13 = .ok (.bipush (-2), 2) := by decide +kernel
theorem dX11_played_15 : decode cX11_played 15 = .ok (.ireturn, 1) := by decide +kernel
theorem dX11_played_16 : decode cX11_played 16 = .ok (.iconst 0, 1) := by decide +kernel
theorem dX11_played_17 : decode cX11_played 17 = .ok (.istore_n 3, 1) := by decide +kernel
theorem dX11_played_18 : decode cX11_played 18 = .ok (.iload_n 3, 1) := by decide +kernel
theorem dX11_played_19 : decode cX11_played 19 = .ok (.aload_n 2, 1) := by decide +kernel
theorem dX11_played_20 : decode cX11_played 20 = .ok (.getfield 204, 3) := by decide +kernel
theorem dX11_played_23 : decode cX11_played 23 = .ok (.if_icmp .ge 20, 3) := by decide +kernel
theorem dX11_played_26 : decode cX11_played 26 = .ok (.aload_n 0, 1) := by decide +kernel
theorem dX11_played_27 : decode cX11_played 27 = .ok (.aload_n 2, 1) := by decide +kernel
theorem dX11_played_28 : decode cX11_played 28 = .ok (.iload_n 3, 1) := by decide +kernel
theorem dX11_played_29 : decode cX11_played 29 = .ok (.invokevirtual 209, 3) := by decide +kernel
theorem dX11_played_32 : decode cX11_played 32 = .ok (.ifCond .ne 5, 3) := by decide +kernel
theorem dX11_played_35 : decode cX11_played 35 = .ok (.iload_n 3, 1) := by decide +kernel
theorem dX11_played_36 : decode cX11_played 36 = .ok (.ireturn, 1) := by decide +kernel
theorem dX11_played_37 : decode cX11_played 37 = .ok (.iinc 3 1, 3) := by decide +kernel
theorem dX11_played_40 : decode cX11_played 40 = .ok (.goto (-22), 3) := by decide +kernel
theorem dX11_played_43 : decode cX11_played 43 = .ok (.iconst (-1), 1) := by decide +kernel
theorem dX11_played_44 : decode cX11_played 44 = .ok (.ireturn, 1) := by decide +kernel
theorem dX11_years_0 : decode cX11_years 0 = .ok (.iload_n 1, 1) := by decide +kernel
theorem dX11_years_1 : decode cX11_years 1 = .ok (.iconst 0, 1) := by decide +kernel
theorem dX11_years_2 : decode cX11_years 2 = .ok (.sipush 9999, 3) := by decide +kernel
theorem dX11_years_5 : decode cX11_years 5 = .ok (.invokestatic 76, 3) := by decide +kernel
theorem dX11_years_8 : decode cX11_years 8 = .ok (.ifCond .eq 13, 3) := by decide +kernel
theorem dX11_years_11 : decode cX11_years 11 = .ok (.iload_n 2, 1) := by decide +kernel
theorem dX11_years_12 : decode cX11_years 12 = .ok (.iconst 1, 1) := by decide +kernel
theorem dX11_years_13 : decode cX11_years 13 = .ok (.bipush 40, 2) := by decide +kernel
theorem dX11_years_15 : decode cX11_years 15 = .ok (.invokestatic 76, 3) := by decide +kernel
theorem dX11_years_18 : decode cX11_years 18 = .ok (.ifCond .ne 5, 3) := by decide +kernel
theorem dX11_years_21 : decode cX11_years 21 = .ok (.iconst (-1), 1) := by decide +kernel
theorem dX11_years_22 : decode cX11_years 22 = .ok (.ireturn, 1) := by decide +kernel
theorem dX11_years_23 : decode cX11_years 23 = .ok (.aload_n 0, 1) := by decide +kernel
theorem dX11_years_24 : decode cX11_years 24 = .ok (.getfield 26, 3) := by decide +kernel
theorem dX11_years_27 : decode cX11_years 27 = .ok (.aload_n 0, 1) := by decide +kernel
theorem dX11_years_28 : decode cX11_years 28 = .ok (.getfield 19, 3) := by decide +kernel
theorem dX11_years_31 : decode cX11_years 31 = .ok (.invokevirtual 162, 3) := by decide +kernel
theorem dX11_years_34 : decode cX11_years 34 = .ok (.aload_n 0, 1) := by decide +kernel
theorem dX11_years_35 : decode cX11_years 35 = .ok (.getfield 19, 3) := by decide +kernel
theorem dX11_years_38 : decode cX11_years 38 = .ok (.iload_n 1, 1) := by decide +kernel
theorem dX11_years_39 : decode cX11_years 39 = .ok (.iconst 2, 1) := by decide +kernel
theorem dX11_years_40 : decode cX11_years 40 = .ok (.imul, 1) := by decide +kernel
theorem dX11_years_41 : decode cX11_years 41 = .ok (.sipush 211, 3) := by decide +kernel
theorem dX11_years_44 : decode cX11_years 44 = .ok (.iadd, 1) := by decide +kernel
theorem dX11_years_45 : decode cX11_years 45 = .ok (.putfield 213, 3) := by decide +kernel
theorem dX11_years_48 : decode cX11_years 48 = .ok (.iconst 0, 1) := by decide +kernel
theorem dX11_years_49 : decode cX11_years 49 = .ok (.istore_n 3, 1) := by decide +kernel
theorem dX11_years_50 : decode cX11_years 50 = .ok (.iload_n 3, 1) := by decide +kernel
theorem dX11_years_51 : decode cX11_years 51 = .ok (.iload_n 2, 1) := by decide +kernel
theorem dX11_years_52 : decode cX11_years 52 = .ok (.if_icmp .ge 20, 3) := by decide +kernel
theorem dX11_years_55 : decode cX11_years 55 = .ok (.aload_n 0, 1) := by decide +kernel
theorem dX11_years_56 : decode cX11_years 56 = .ok (.getfield 60, 3) := by decide +kernel
theorem dX11_years_59 : decode cX11_years 59 = .ok (.aload_n 0, 1) := by decide +kernel
theorem dX11_years_60 : decode cX11_years 60 = .ok (.getfield 19, 3) := by decide +kernel
theorem dX11_years_63 : decode cX11_years 63 = .ok (.invokevirtual 216, 3) := by decide +kernel
theorem dX11_years_66 : decode cX11_years 66 = .ok (.iinc 3 1, 3) := by decide +kernel
theorem dX11_years_69 : decode cX11_years 69 = .ok (.goto (-19), 3) := by decide +kernel
theorem dX11_years_72 : decode cX11_years 72 = .ok (.aload_n 0, 1) := by decide +kernel
theorem dX11_years_73 : decode cX11_years 73 = .ok (.getfield 19, 3) := by decide +kernel
theorem dX11_years_76 : decode cX11_years 76 = .ok (.getfield 193, 3) := by decide +kernel
theorem dX11_years_79 : decode cX11_years 79 = .ok (.ireturn, 1) := by decide +kernel
theorem dX11_undo_0 : decode cX11_undo 0 = .ok (.aload_n 0, 1) := by decide +kernel
theorem dX11_undo_1 : decode cX11_undo 1 = .ok (.getfield 26, 3) := by decide +kernel
theorem dX11_undo_4 : decode cX11_undo 4 = .ok (.aload_n 0, 1) := by decide +kernel
theorem dX11_undo_5 : decode cX11_undo 5 = .ok (.getfield 19, 3) := by decide +kernel
theorem dX11_undo_8 : decode cX11_undo 8 = .ok (.invokevirtual 219, 3) := by decide +kernel
theorem dX11_undo_11 : decode cX11_undo 11 = .ok (.ifCond .eq 13, 3) := by decide +kernel
theorem dX11_undo_14 : decode cX11_undo 14 = .ok (.aload_n 0, 1) := by decide +kernel
theorem dX11_undo_15 : decode cX11_undo 15 = .ok (.getfield 26, 3) := by decide +kernel
theorem dX11_undo_18 : decode cX11_undo 18 = .ok (.getfield 223, 3) := by decide +kernel
theorem dX11_undo_21 : decode cX11_undo 21 = .ok (.goto 4, 3) := by decide +kernel
theorem dX11_undo_24 : decode cX11_undo 24 = .ok (.iconst (-1), 1) := by decide +kernel
theorem dX11_undo_25 : decode cX11_undo 25 = .ok (.ireturn, 1) := by decide +kernel
theorem dX11_passWeeks_0 : decode cX11_passWeeks 0 = .ok (.iconst 0, 1) := by decide +kernel
theorem dX11_passWeeks_1 : decode cX11_passWeeks 1 = .ok (.istore_n 2, 1) := by decide +kernel
theorem dX11_passWeeks_2 : decode cX11_passWeeks 2 = .ok (.iconst 0, 1) := by decide +kernel
theorem dX11_passWeeks_3 : decode cX11_passWeeks 3 = .ok (.istore_n 3, 1) := by decide +kernel
theorem dX11_passWeeks_4 : decode cX11_passWeeks 4 = .ok (.iload_n 3, 1) := by decide +kernel
theorem dX11_passWeeks_5 : decode cX11_passWeeks 5 = .ok (.iload_n 1, 1) := by decide +kernel
theorem dX11_passWeeks_6 : decode cX11_passWeeks 6 = .ok (.if_icmp .ge 34, 3) := by decide +kernel
theorem dX11_passWeeks_9 : decode cX11_passWeeks 9 = .ok (.aload_n 0, 1) := by decide +kernel
theorem dX11_passWeeks_10 : decode cX11_passWeeks 10 = .ok (.getfield 26, 3) := by decide +kernel
theorem dX11_passWeeks_13 : decode cX11_passWeeks 13 = .ok (.aload_n 0, 1) := by decide +kernel
theorem dX11_passWeeks_14 : decode cX11_passWeeks 14 = .ok (.getfield 19, 3) := by decide +kernel
theorem dX11_passWeeks_17 : decode cX11_passWeeks 17 = .ok (.invokevirtual 162, 3) := by decide +kernel
theorem dX11_passWeeks_20 : decode cX11_passWeeks 20 = .ok (.iload_n 2, 1) := by decide +kernel
theorem dX11_passWeeks_21 : decode cX11_passWeeks 21 = .ok (.aload_n 0, 1) := by decide +kernel
theorem dX11_passWeeks_22 : decode cX11_passWeeks 22 = .ok (.getfield 60, 3) := by decide +kernel
theorem dX11_passWeeks_25 : decode cX11_passWeeks 25 = .ok (.aload_n 0, 1) := by decide +kernel
theorem dX11_passWeeks_26 : decode cX11_passWeeks 26 = .ok (.getfield 19, 3) := by decide +kernel
theorem dX11_passWeeks_29 : decode cX11_passWeeks 29 = .ok (.invokevirtual 226, 3) := by decide +kernel
theorem dX11_passWeeks_32 : decode cX11_passWeeks 32 = .ok (.iadd, 1) := by decide +kernel
theorem dX11_passWeeks_33 : decode cX11_passWeeks 33 = .ok (.istore_n 2, 1) := by decide +kernel
theorem dX11_passWeeks_34 : decode cX11_passWeeks 34 = .ok (.iinc 3 1, 3) := by decide +kernel
theorem dX11_passWeeks_37 : decode cX11_passWeeks 37 = .ok (.goto (-33), 3) := by decide +kernel
theorem dX11_passWeeks_40 : decode cX11_passWeeks 40 = .ok (.iload_n 2, 1) := by decide +kernel
theorem dX11_passWeeks_41 : decode cX11_passWeeks 41 = .ok (.ireturn, 1) := by decide +kernel
theorem dX11_playClause_0 : decode cX11_playClause 0 = .ok (.aload_n 1, 1) := by decide +kernel
theorem dX11_playClause_1 : decode cX11_playClause 1 = .ok (.iload_n 2, 1) := by decide +kernel
theorem dX11_playClause_2 : decode cX11_playClause 2 = .ok (.iconst 0, 1) := by decide +kernel
theorem dX11_playClause_3 : decode cX11_playClause 3 = .ok (.invokevirtual 230, 3) := by decide +kernel
theorem dX11_playClause_6 : decode cX11_playClause 6 = .ok (.istore_n 3, 1) := by decide +kernel
theorem dX11_playClause_7 : decode cX11_playClause 7 = .ok (.aload_n 1, 1) := by decide +kernel
theorem dX11_playClause_8 : decode cX11_playClause 8 = .ok (.iload_n 2, 1) := by decide +kernel
theorem dX11_playClause_9 : decode cX11_playClause 9 = .ok (.iconst 1, 1) := by decide +kernel
theorem dX11_playClause_10 : decode cX11_playClause 10 = .ok (.invokevirtual 230, 3) := by decide +kernel
theorem dX11_playClause_13 : decode cX11_playClause 13 = .ok (.istore 4, 2) := by decide +kernel
theorem dX11_playClause_15 : decode cX11_playClause 15 = .ok (.aload_n 1, 1) := by decide +kernel
theorem dX11_playClause_16 : decode cX11_playClause 16 = .ok (.iload_n 2, 1) := by decide +kernel
theorem dX11_playClause_17 : decode cX11_playClause 17 = .ok (.iconst 2, 1) := by decide +kernel
theorem dX11_playClause_18 : decode cX11_playClause 18 = .ok (.invokevirtual 230, 3) := by decide +kernel
theorem dX11_playClause_21 : decode cX11_playClause 21 = .ok (.istore 5, 2) := by decide +kernel
theorem dX11_playClause_23 : decode cX11_playClause 23 = .ok (.aload_n 1, 1) := by decide +kernel
theorem dX11_playClause_24 : decode cX11_playClause 24 = .ok (.iload_n 2, 1) := by decide +kernel
theorem dX11_playClause_25 : decode cX11_playClause 25 = .ok (.invokevirtual 233, 3) := by decide +kernel
theorem dX11_playClause_28 : decode cX11_playClause 28 = .ok (.tableswitch 164 4 11 #[67, 92, 108, 114, 120, 48, 82, 128], 48) := by decide +kernel
theorem dX11_playClause_76 : decode cX11_playClause 76 = .ok (.aload_n 0, 1) := by decide +kernel
theorem dX11_playClause_77 : decode cX11_playClause 77 = .ok (.iload_n 3, 1) := by decide +kernel
theorem dX11_playClause_78 : decode cX11_playClause 78 = .ok (.iload 4, 2) := by decide +kernel
theorem dX11_playClause_80 : decode cX11_playClause 80 = .ok (.iload 5, 2) := by decide +kernel
theorem dX11_playClause_82 : decode cX11_playClause 82 = .ok (.invokevirtual 236, 3) := by decide +kernel
theorem dX11_playClause_85 : decode cX11_playClause 85 = .ok (.iconst (-1), 1) := by decide +kernel
theorem dX11_playClause_86 : decode cX11_playClause 86 = .ok (.if_icmp .eq 7, 3) := by decide +kernel
theorem dX11_playClause_89 : decode cX11_playClause 89 = .ok (.iconst 1, 1) := by decide +kernel
theorem dX11_playClause_90 : decode cX11_playClause 90 = .ok (.goto 4, 3) := by decide +kernel
theorem dX11_playClause_93 : decode cX11_playClause 93 = .ok (.iconst 0, 1) := by decide +kernel
theorem dX11_playClause_94 : decode cX11_playClause 94 = .ok (.ireturn, 1) := by decide +kernel
theorem dX11_playClause_95 : decode cX11_playClause 95 = .ok (.aload_n 0, 1) := by decide +kernel
theorem dX11_playClause_96 : decode cX11_playClause 96 = .ok (.iload_n 3, 1) := by decide +kernel
theorem dX11_playClause_97 : decode cX11_playClause 97 = .ok (.invokevirtual 240, 3) := by decide +kernel
theorem dX11_playClause_100 : decode cX11_playClause 100 = .ok (.iconst (-1), 1) := by decide +kernel
theorem dX11_playClause_101 : decode cX11_playClause 101 = .ok (.if_icmp .eq 7, 3) := by decide +kernel
theorem dX11_playClause_104 : decode cX11_playClause 104 = .ok (.iconst 1, 1) := by decide +kernel
theorem dX11_playClause_105 : decode cX11_playClause 105 = .ok (.goto 4, 3) := by decide +kernel
theorem dX11_playClause_108 : decode cX11_playClause 108 = .ok (.iconst 0, 1) := by decide +kernel
theorem dX11_playClause_109 : decode cX11_playClause 109 = .ok (.ireturn, 1) := by decide +kernel
theorem dX11_playClause_110 : decode cX11_playClause 110 = .ok (.aload_n 0, 1) := by decide +kernel
theorem dX11_playClause_111 : decode cX11_playClause 111 = .ok (.iload 5, 2) := by decide +kernel
theorem dX11_playClause_113 : decode cX11_playClause 113 = .ok (.iload 4, 2) := by decide +kernel
theorem dX11_playClause_115 : decode cX11_playClause 115 = .ok (.iload_n 3, 1) := by decide +kernel
theorem dX11_playClause_116 : decode cX11_playClause 116 = .ok (.invokevirtual 243, 3) := by decide +kernel
theorem dX11_playClause_119 : decode cX11_playClause 119 = .ok (.ireturn, 1) := by decide +kernel
theorem dX11_playClause_120 : decode cX11_playClause 120 = .ok (.aload_n 0, 1) := by decide +kernel
theorem dX11_playClause_121 : decode cX11_playClause 121 = .ok (.iload_n 3, 1) := by decide +kernel
theorem dX11_playClause_122 : decode cX11_playClause 122 = .ok (.invokevirtual 245, 3) := by decide +kernel
theorem dX11_playClause_125 : decode cX11_playClause 125 = .ok (.bipush (-2), 2) := by decide +kernel
theorem dX11_playClause_127 : decode cX11_playClause 127 = .ok (.if_icmp .eq 7, 3) := by decide +kernel
theorem dX11_playClause_130 : decode cX11_playClause 130 = .ok (.iconst 1, 1) := by decide +kernel
theorem dX11_playClause_131 : decode cX11_playClause 131 = .ok (.goto 4, 3) := by decide +kernel
theorem dX11_playClause_134 : decode cX11_playClause 134 = .ok (.iconst 0, 1) := by decide +kernel
theorem dX11_playClause_135 : decode cX11_playClause 135 = .ok (.ireturn, 1) := by decide +kernel
theorem dX11_playClause_136 : decode cX11_playClause 136 = .ok (.aload_n 0, 1) := by decide +kernel
theorem dX11_playClause_137 : decode cX11_playClause 137 = .ok (.iload_n 3, 1) := by decide +kernel
theorem dX11_playClause_138 : decode cX11_playClause 138 = .ok (.invokevirtual 248, 3) := by decide +kernel
theorem dX11_playClause_141 : decode cX11_playClause 141 = .ok (.ireturn, 1) := by decide +kernel
theorem dX11_playClause_142 : decode cX11_playClause 142 = .ok (.aload_n 0, 1) := by decide +kernel
theorem dX11_playClause_143 : decode cX11_playClause 143 = .ok (.iload_n 3, 1) := by decide +kernel
theorem dX11_playClause_144 : decode cX11_playClause 144 = .ok (.invokevirtual 251, 3) := by decide +kernel
theorem dX11_playClause_147 : decode cX11_playClause 147 = .ok (.ireturn, 1) := by decide +kernel
theorem dX11_playClause_148 : decode cX11_playClause 148 = .ok (.aload_n 0, 1) := by decide +kernel
theorem dX11_playClause_149 : decode cX11_playClause 149 = .ok (.iload_n 3, 1) := by decide +kernel
theorem dX11_playClause_150 : decode cX11_playClause 150 = .ok (.iload 4, 2) := by decide +kernel
theorem dX11_playClause_152 : decode cX11_playClause 152 = .ok (.invokevirtual 254, 3) := by decide +kernel
theorem dX11_playClause_155 : decode cX11_playClause 155 = .ok (.ireturn, 1) := by decide +kernel
theorem dX11_playClause_156 : decode cX11_playClause 156 = .ok (.iload_n 3, 1) := by decide +kernel
theorem dX11_playClause_157 : decode cX11_playClause 157 = .ok (.sipush 9999, 3) := by decide +kernel
theorem dX11_playClause_160 : decode cX11_playClause 160 = .ok (.aload_n 0, 1) := by decide +kernel
theorem dX11_playClause_161 : decode cX11_playClause 161 = .ok (.getfield 19, 3) := by decide +kernel
theorem dX11_playClause_164 : decode cX11_playClause 164 = .ok (.getfield 193, 3) := by decide +kernel
theorem dX11_playClause_167 : decode cX11_playClause 167 = .ok (.isub, 1) := by decide +kernel
theorem dX11_playClause_168 : decode cX11_playClause 168 = .ok (.invokestatic 258, 3) := by decide +kernel
theorem dX11_playClause_171 : decode cX11_playClause 171 = .ok (.istore 6, 2) := by decide +kernel
theorem dX11_playClause_173 : decode cX11_playClause 173 = .ok (.aload_n 0, 1) := by decide +kernel
theorem dX11_playClause_174 : decode cX11_playClause 174 = .ok (.iload 6, 2) := by decide +kernel
theorem dX11_playClause_176 : decode cX11_playClause 176 = .ok (.invokevirtual 196, 3) := by decide +kernel
theorem dX11_playClause_179 : decode cX11_playClause 179 = .ok (.pop, 1) := by decide +kernel
theorem dX11_playClause_180 : decode cX11_playClause 180 = .ok (.iload 6, 2) := by decide +kernel
theorem dX11_playClause_182 : decode cX11_playClause 182 = .ok (.iload_n 3, 1) := by decide +kernel
theorem dX11_playClause_183 : decode cX11_playClause 183 = .ok (.if_icmp .ne 7, 3) := by decide +kernel
theorem dX11_playClause_186 : decode cX11_playClause 186 = .ok (.iconst 1, 1) := by decide +kernel
theorem dX11_playClause_187 : decode cX11_playClause 187 = .ok (.goto 4, 3) := by decide +kernel
theorem dX11_playClause_190 : decode cX11_playClause 190 = .ok (.iconst 0, 1) := by decide +kernel
theorem dX11_playClause_191 : decode cX11_playClause 191 = .ok (.ireturn, 1) := by decide +kernel
theorem dX11_playClause_192 : decode cX11_playClause 192 = .ok (.iconst 1, 1) := by decide +kernel
theorem dX11_playClause_193 : decode cX11_playClause 193 = .ok (.ireturn, 1) := by decide +kernel
theorem dX11_of_0 : decode cX11_of 0 = .ok (.aload_n 0, 1) := by decide +kernel
theorem dX11_of_1 : decode cX11_of 1 = .ok (.getfield 10, 3) := by decide +kernel
theorem dX11_of_4 : decode cX11_of 4 = .ok (.iload_n 1, 1) := by decide +kernel
theorem dX11_of_5 : decode cX11_of 5 = .ok (.invokevirtual 111, 3) := by decide +kernel
theorem dX11_of_8 : decode cX11_of 8 = .ok (.ifCond .ne 6, 3) := by decide +kernel
theorem dX11_of_11 : decode cX11_of 11 = .ok (.bipush (-2), 2) := by decide +kernel
theorem dX11_of_13 : decode cX11_of 13 = .ok (.ireturn, 1) := by decide +kernel
theorem dX11_of_14 : decode cX11_of 14 = .ok (.iload_n 2, 1) := by decide +kernel
theorem dX11_of_15 : decode cX11_of 15 = .ok (.tableswitch 165 0 7 #[45, 55, 65, 75, 85, 98, 125, 145], 45) := by decide +kernel
theorem dX11_of_60 : decode cX11_of 60 = .ok (.aload_n 0, 1) := by decide +kernel
theorem dX11_of_61 : decode cX11_of 61 = .ok (.getfield 19, 3) := by decide +kernel
theorem dX11_of_64 : decode cX11_of 64 = .ok (.getfield 91, 3) := by decide +kernel
theorem dX11_of_67 : decode cX11_of 67 = .ok (.iload_n 1, 1) := by decide +kernel
theorem dX11_of_68 : decode cX11_of 68 = .ok (.iaload, 1) := by decide +kernel
theorem dX11_of_69 : decode cX11_of 69 = .ok (.ireturn, 1) := by decide +kernel
theorem dX11_of_70 : decode cX11_of 70 = .ok (.aload_n 0, 1) := by decide +kernel
theorem dX11_of_71 : decode cX11_of 71 = .ok (.getfield 10, 3) := by decide +kernel
theorem dX11_of_74 : decode cX11_of 74 = .ok (.getfield 84, 3) := by decide +kernel
theorem dX11_of_77 : decode cX11_of 77 = .ok (.iload_n 1, 1) := by decide +kernel
theorem dX11_of_78 : decode cX11_of 78 = .ok (.iaload, 1) := by decide +kernel
theorem dX11_of_79 : decode cX11_of 79 = .ok (.ireturn, 1) := by decide +kernel
theorem dX11_of_80 : decode cX11_of 80 = .ok (.aload_n 0, 1) := by decide +kernel
theorem dX11_of_81 : decode cX11_of 81 = .ok (.getfield 10, 3) := by decide +kernel
theorem dX11_of_84 : decode cX11_of 84 = .ok (.getfield 88, 3) := by decide +kernel
theorem dX11_of_87 : decode cX11_of 87 = .ok (.iload_n 1, 1) := by decide +kernel
theorem dX11_of_88 : decode cX11_of 88 = .ok (.iaload, 1) := by decide +kernel
theorem dX11_of_89 : decode cX11_of 89 = .ok (.ireturn, 1) := by decide +kernel
theorem dX11_of_90 : decode cX11_of 90 = .ok (.aload_n 0, 1) := by decide +kernel
theorem dX11_of_91 : decode cX11_of 91 = .ok (.getfield 19, 3) := by decide +kernel
theorem dX11_of_94 : decode cX11_of 94 = .ok (.getfield 182, 3) := by decide +kernel
theorem dX11_of_97 : decode cX11_of 97 = .ok (.iload_n 1, 1) := by decide +kernel
theorem dX11_of_98 : decode cX11_of 98 = .ok (.iaload, 1) := by decide +kernel
theorem dX11_of_99 : decode cX11_of 99 = .ok (.ireturn, 1) := by decide +kernel
theorem dX11_of_100 : decode cX11_of 100 = .ok (.aload_n 0, 1) := by decide +kernel
theorem dX11_of_101 : decode cX11_of 101 = .ok (.getfield 60, 3) := by decide +kernel
theorem dX11_of_104 : decode cX11_of 104 = .ok (.aload_n 0, 1) := by decide +kernel
theorem dX11_of_105 : decode cX11_of 105 = .ok (.getfield 19, 3) := by decide +kernel
theorem dX11_of_108 : decode cX11_of 108 = .ok (.iload_n 1, 1) := by decide +kernel
theorem dX11_of_109 : decode cX11_of 109 = .ok (.invokevirtual 263, 3) := by decide +kernel
theorem dX11_of_112 : decode cX11_of 112 = .ok (.ireturn, 1) := by decide +kernel
theorem dX11_of_113 : decode cX11_of 113 = .ok (.aload_n 0, 1) := by decide +kernel
theorem dX11_of_114 : decode cX11_of 114 = .ok (.getfield 60, 3) := by decide +kernel
theorem dX11_of_117 : decode cX11_of 117 = .ok (.aload_n 0, 1) := by decide +kernel
theorem dX11_of_118 : decode cX11_of 118 = .ok (.getfield 10, 3) := by decide +kernel
theorem dX11_of_121 : decode cX11_of 121 = .ok (.aload_n 0, 1) := by decide +kernel
theorem dX11_of_122 : decode cX11_of 122 = .ok (.getfield 10, 3) := by decide +kernel
theorem dX11_of_125 : decode cX11_of 125 = .ok (.getfield 155, 3) := by decide +kernel
theorem dX11_of_128 : decode cX11_of 128 = .ok (.invokevirtual 200, 3) := by decide +kernel
theorem dX11_of_131 : decode cX11_of 131 = .ok (.aload_n 0, 1) := by decide +kernel
theorem dX11_of_132 : decode cX11_of 132 = .ok (.getfield 19, 3) := by decide +kernel
theorem dX11_of_135 : decode cX11_of 135 = .ok (.iload_n 1, 1) := by decide +kernel
theorem dX11_of_136 : decode cX11_of 136 = .ok (.invokevirtual 267, 3) := by decide +kernel
theorem dX11_of_139 : decode cX11_of 139 = .ok (.ireturn, 1) := by decide +kernel
theorem dX11_of_140 : decode cX11_of 140 = .ok (.aload_n 0, 1) := by decide +kernel
theorem dX11_of_141 : decode cX11_of 141 = .ok (.getfield 60, 3) := by decide +kernel
theorem dX11_of_144 : decode cX11_of 144 = .ok (.aload_n 0, 1) := by decide +kernel
theorem dX11_of_145 : decode cX11_of 145 = .ok (.getfield 19, 3) := by decide +kernel
theorem dX11_of_148 : decode cX11_of 148 = .ok (.iload_n 1, 1) := by decide +kernel
theorem dX11_of_149 : decode cX11_of 149 = .ok (.invokevirtual 166, 3) := by decide +kernel
theorem dX11_of_152 : decode cX11_of 152 = .ok (.aload_n 0, 1) := by decide +kernel
theorem dX11_of_153 : decode cX11_of 153 = .ok (.getfield 60, 3) := by decide +kernel
theorem dX11_of_156 : decode cX11_of 156 = .ok (.getfield 271, 3) := by decide +kernel
theorem dX11_of_159 : decode cX11_of 159 = .ok (.ireturn, 1) := by decide +kernel
theorem dX11_of_160 : decode cX11_of 160 = .ok (.aload_n 0, 1) := by decide +kernel
theorem dX11_of_161 : decode cX11_of 161 = .ok (.getfield 60, 3) := by decide +kernel
theorem dX11_of_164 : decode cX11_of 164 = .ok (.aload_n 0, 1) := by decide +kernel
theorem dX11_of_165 : decode cX11_of 165 = .ok (.getfield 19, 3) := by decide +kernel
theorem dX11_of_168 : decode cX11_of 168 = .ok (.iload_n 1, 1) := by decide +kernel
theorem dX11_of_169 : decode cX11_of 169 = .ok (.invokevirtual 166, 3) := by decide +kernel
theorem dX11_of_172 : decode cX11_of 172 = .ok (.aload_n 0, 1) := by decide +kernel
theorem dX11_of_173 : decode cX11_of 173 = .ok (.getfield 60, 3) := by decide +kernel
theorem dX11_of_176 : decode cX11_of 176 = .ok (.getfield 173, 3) := by decide +kernel
theorem dX11_of_179 : decode cX11_of 179 = .ok (.ireturn, 1) := by decide +kernel
theorem dX11_of_180 : decode cX11_of 180 = .ok (.bipush (-2), 2) := by decide +kernel
theorem dX11_of_182 : decode cX11_of 182 = .ok (.ireturn, 1) := by decide +kernel
theorem dX11_ofBidder_0 : decode cX11_ofBidder 0 = .ok (.aload_n 0, 1) := by decide +kernel
theorem dX11_ofBidder_1 : decode cX11_ofBidder 1 = .ok (.getfield 10, 3) := by decide +kernel
theorem dX11_ofBidder_4 : decode cX11_ofBidder 4 = .ok (.iload_n 1, 1) := by decide +kernel
theorem dX11_ofBidder_5 : decode cX11_ofBidder 5 = .ok (.invokevirtual 107, 3) := by decide +kernel
theorem dX11_ofBidder_8 : decode cX11_ofBidder 8 = .ok (.ifCond .eq 12, 3) := by decide +kernel
theorem dX11_ofBidder_11 : decode cX11_ofBidder 11 = .ok (.iload_n 2, 1) := by decide +kernel
theorem dX11_ofBidder_12 : decode cX11_ofBidder 12 = .ok (.iconst 0, 1) := by decide +kernel
theorem dX11_ofBidder_13 : decode cX11_ofBidder 13 = .ok (.iconst 2, 1) := by decide +kernel
theorem dX11_ofBidder_14 : decode cX11_ofBidder 14 = .ok (.invokestatic 76, 3) := by decide +kernel
theorem dX11_ofBidder_17 : decode cX11_ofBidder 17 = .ok (.ifCond .ne 6, 3) := by decide +kernel
theorem dX11_ofBidder_20 : decode cX11_ofBidder 20 = .ok (.bipush (-2), 2) := by decide +kernel
theorem dX11_ofBidder_22 : decode cX11_ofBidder 22 = .ok (.ireturn, 1) := by decide +kernel
theorem dX11_ofBidder_23 : decode cX11_ofBidder 23 = .ok (.iload_n 2, 1) := by decide +kernel
theorem dX11_ofBidder_24 : decode cX11_ofBidder 24 = .ok (.ifCond .ne 13, 3) := by decide +kernel
theorem dX11_ofBidder_27 : decode cX11_ofBidder 27 = .ok (.aload_n 0, 1) := by decide +kernel
theorem dX11_ofBidder_28 : decode cX11_ofBidder 28 = .ok (.getfield 19, 3) := by decide +kernel
theorem dX11_ofBidder_31 : decode cX11_ofBidder 31 = .ok (.getfield 101, 3) := by decide +kernel
theorem dX11_ofBidder_34 : decode cX11_ofBidder 34 = .ok (.iload_n 1, 1) := by decide +kernel
theorem dX11_ofBidder_35 : decode cX11_ofBidder 35 = .ok (.iaload, 1) := by decide +kernel
theorem dX11_ofBidder_36 : decode cX11_ofBidder 36 = .ok (.ireturn, 1) := by decide +kernel
theorem dX11_ofBidder_37 : decode cX11_ofBidder 37 = .ok (.iconst 0, 1) := by decide +kernel
theorem dX11_ofBidder_38 : decode cX11_ofBidder 38 = .ok (.istore_n 3, 1) := by decide +kernel
theorem dX11_ofBidder_39 : decode cX11_ofBidder 39 = .ok (.iconst 0, 1) := by decide +kernel
theorem dX11_ofBidder_40 : decode cX11_ofBidder 40 = .ok (.istore 4, 2) := by decide +kernel
theorem dX11_ofBidder_42 : decode cX11_ofBidder 42 = .ok (.iconst 0, 1) := by decide +kernel
theorem dX11_ofBidder_43 : decode cX11_ofBidder 43 = .ok (.istore 5, 2) := by decide +kernel
theorem dX11_ofBidder_45 : decode cX11_ofBidder 45 = .ok (.iload 5, 2) := by decide +kernel
theorem dX11_ofBidder_47 : decode cX11_ofBidder 47 = .ok (.aload_n 0, 1) := by decide +kernel
theorem dX11_ofBidder_48 : decode cX11_ofBidder 48 = .ok (.getfield 10, 3) := by decide +kernel
theorem dX11_ofBidder_51 : decode cX11_ofBidder 51 = .ok (.getfield 80, 3) := by decide +kernel
theorem dX11_ofBidder_54 : decode cX11_ofBidder 54 = .ok (.if_icmp .ge 51, 3) := by decide +kernel
theorem dX11_ofBidder_57 : decode cX11_ofBidder 57 = .ok (.aload_n 0, 1) := by decide +kernel
theorem dX11_ofBidder_58 : decode cX11_ofBidder 58 = .ok (.getfield 19, 3) := by decide +kernel
theorem dX11_ofBidder_61 : decode cX11_ofBidder 61 = .ok (.getfield 182, 3) := by decide +kernel
theorem dX11_ofBidder_64 : decode cX11_ofBidder 64 = .ok (.iload 5, 2) := by decide +kernel
theorem dX11_ofBidder_66 : decode cX11_ofBidder 66 = .ok (.iaload, 1) := by decide +kernel
theorem dX11_ofBidder_67 : decode cX11_ofBidder 67 = .ok (.iconst 3, 1) := by decide +kernel
theorem dX11_ofBidder_68 : decode cX11_ofBidder 68 = .ok (.iload_n 1, 1) := by decide +kernel
theorem dX11_ofBidder_69 : decode cX11_ofBidder 69 = .ok (.iadd, 1) := by decide +kernel
theorem dX11_ofBidder_70 : decode cX11_ofBidder 70 = .ok (.if_icmp .ne 29, 3) := by decide +kernel
theorem dX11_ofBidder_73 : decode cX11_ofBidder 73 = .ok (.iload_n 3, 1) := by decide +kernel
theorem dX11_ofBidder_74 : decode cX11_ofBidder 74 = .ok (.iconst 1, 1) := by decide +kernel
theorem dX11_ofBidder_75 : decode cX11_ofBidder 75 = .ok (.iload 5, 2) := by decide +kernel
theorem dX11_ofBidder_77 : decode cX11_ofBidder 77 = .ok (.ishl, 1) := by decide +kernel
theorem dX11_ofBidder_78 : decode cX11_ofBidder 78 = .ok (.ior, 1) := by decide +kernel
theorem dX11_ofBidder_79 : decode cX11_ofBidder 79 = .ok (.istore_n 3, 1) := by decide +kernel
theorem dX11_ofBidder_80 : decode cX11_ofBidder 80 = .ok (.iload 4, 2) := by decide +kernel
theorem dX11_ofBidder_82 : decode cX11_ofBidder 82 = .ok (.aload_n 0, 1) := by decide +kernel
theorem dX11_ofBidder_83 : decode cX11_ofBidder 83 = .ok (.getfield 19, 3) := by decide +kernel
theorem dX11_ofBidder_86 : decode cX11_ofBidder 86 = .ok (.getfield 114, 3) := by decide +kernel
theorem dX11_ofBidder_89 : decode cX11_ofBidder 89 = .ok (.iload_n 1, 1) := by decide +kernel
theorem dX11_ofBidder_90 : decode cX11_ofBidder 90 = .ok (.iload 5, 2) := by decide +kernel
theorem dX11_ofBidder_92 : decode cX11_ofBidder 92 = .ok (.invokestatic 117, 3) := by decide +kernel
theorem dX11_ofBidder_95 : decode cX11_ofBidder 95 = .ok (.iaload, 1) := by decide +kernel
theorem dX11_ofBidder_96 : decode cX11_ofBidder 96 = .ok (.iadd, 1) := by decide +kernel
theorem dX11_ofBidder_97 : decode cX11_ofBidder 97 = .ok (.istore 4, 2) := by decide +kernel
theorem dX11_ofBidder_99 : decode cX11_ofBidder 99 = .ok (.iinc 5 1, 3) := by decide +kernel
theorem dX11_ofBidder_102 : decode cX11_ofBidder 102 = .ok (.goto (-57), 3) := by decide +kernel
theorem dX11_ofBidder_105 : decode cX11_ofBidder 105 = .ok (.iload_n 2, 1) := by decide +kernel
theorem dX11_ofBidder_106 : decode cX11_ofBidder 106 = .ok (.iconst 1, 1) := by decide +kernel
theorem dX11_ofBidder_107 : decode cX11_ofBidder 107 = .ok (.if_icmp .ne 7, 3) := by decide +kernel
theorem dX11_ofBidder_110 : decode cX11_ofBidder 110 = .ok (.iload_n 3, 1) := by decide +kernel
theorem dX11_ofBidder_111 : decode cX11_ofBidder 111 = .ok (.goto 5, 3) := by decide +kernel
theorem dX11_ofBidder_114 : decode cX11_ofBidder 114 = .ok (.iload 4, 2) := by decide +kernel
theorem dX11_ofBidder_116 : decode cX11_ofBidder 116 = .ok (.ireturn, 1) := by decide +kernel
theorem dX11_bids_0 : decode cX11_bids 0 = .ok (.aload_n 0, 1) := by decide +kernel
theorem dX11_bids_1 : decode cX11_bids 1 = .ok (.getfield 10, 3) := by decide +kernel
theorem dX11_bids_4 : decode cX11_bids 4 = .ok (.iload_n 1, 1) := by decide +kernel
theorem dX11_bids_5 : decode cX11_bids 5 = .ok (.invokevirtual 107, 3) := by decide +kernel
theorem dX11_bids_8 : decode cX11_bids 8 = .ok (.ifCond .eq 14, 3) := by decide +kernel
theorem dX11_bids_11 : decode cX11_bids 11 = .ok (.aload_n 0, 1) := by decide +kernel
theorem dX11_bids_12 : decode cX11_bids 12 = .ok (.getfield 10, 3) := by decide +kernel
theorem dX11_bids_15 : decode cX11_bids 15 = .ok (.iload_n 2, 1) := by decide +kernel
theorem dX11_bids_16 : decode cX11_bids 16 = .ok (.invokevirtual 111, 3) := by decide +kernel
theorem dX11_bids_19 : decode cX11_bids 19 = .ok (.ifCond .ne 5, 3) := by decide +kernel
theorem dX11_bids_22 : decode cX11_bids 22 = .ok (.iconst (-1), 1) := by decide +kernel
theorem dX11_bids_23 : decode cX11_bids 23 = .ok (.ireturn, 1) := by decide +kernel
theorem dX11_bids_24 : decode cX11_bids 24 = .ok (.aload_n 0, 1) := by decide +kernel
theorem dX11_bids_25 : decode cX11_bids 25 = .ok (.getfield 60, 3) := by decide +kernel
theorem dX11_bids_28 : decode cX11_bids 28 = .ok (.aload_n 0, 1) := by decide +kernel
theorem dX11_bids_29 : decode cX11_bids 29 = .ok (.getfield 19, 3) := by decide +kernel
theorem dX11_bids_32 : decode cX11_bids 32 = .ok (.iload_n 1, 1) := by decide +kernel
theorem dX11_bids_33 : decode cX11_bids 33 = .ok (.iload_n 2, 1) := by decide +kernel
theorem dX11_bids_34 : decode cX11_bids 34 = .ok (.invokevirtual 274, 3) := by decide +kernel
theorem dX11_bids_37 : decode cX11_bids 37 = .ok (.ireturn, 1) := by decide +kernel
theorem dX11_is_0 : decode cX11_is 0 = .ok (.iload_n 1, 1) := by decide +kernel
theorem dX11_is_1 : decode cX11_is 1 = .ok (.tableswitch 89 0 4 #[35, 43, 51, 59, 67], 35) := by decide +kernel
theorem dX11_is_36 : decode cX11_is 36 = .ok (.aload_n 0, 1) := by decide +kernel
theorem dX11_is_37 : decode cX11_is 37 = .ok (.getfield 19, 3) := by decide +kernel
theorem dX11_is_40 : decode cX11_is 40 = .ok (.getfield 193, 3) := by decide +kernel
theorem dX11_is_43 : decode cX11_is 43 = .ok (.ireturn, 1) := by decide +kernel
theorem dX11_is_44 : decode cX11_is 44 = .ok (.aload_n 0, 1) := by decide +kernel
theorem dX11_is_45 : decode cX11_is 45 = .ok (.getfield 19, 3) := by decide +kernel
theorem dX11_is_48 : decode cX11_is 48 = .ok (.getfield 278, 3) := by decide +kernel
theorem dX11_is_51 : decode cX11_is 51 = .ok (.ireturn, 1) := by decide +kernel
theorem dX11_is_52 : decode cX11_is 52 = .ok (.aload_n 0, 1) := by decide +kernel
theorem dX11_is_53 : decode cX11_is 53 = .ok (.getfield 19, 3) := by decide +kernel
theorem dX11_is_56 : decode cX11_is 56 = .ok (.getfield 213, 3) := by decide +kernel
theorem dX11_is_59 : decode cX11_is 59 = .ok (.ireturn, 1) := by decide +kernel
theorem dX11_is_60 : decode cX11_is 60 = .ok (.aload_n 0, 1) := by decide +kernel
theorem dX11_is_61 : decode cX11_is 61 = .ok (.getfield 19, 3) := by decide +kernel
theorem dX11_is_64 : decode cX11_is 64 = .ok (.invokevirtual 281, 3) := by decide +kernel
theorem dX11_is_67 : decode cX11_is 67 = .ok (.ireturn, 1) := by decide +kernel
theorem dX11_is_68 : decode cX11_is 68 = .ok (.aload_n 0, 1) := by decide +kernel
theorem dX11_is_69 : decode cX11_is 69 = .ok (.getfield 19, 3) := by decide +kernel
theorem dX11_is_72 : decode cX11_is 72 = .ok (.aload_n 0, 1) := by decide +kernel
theorem dX11_is_73 : decode cX11_is 73 = .ok (.getfield 19, 3) := by decide +kernel
theorem dX11_is_76 : decode cX11_is 76 = .ok (.invokevirtual 281, 3) := by decide +kernel
theorem dX11_is_79 : decode cX11_is 79 = .ok (.aload_n 0, 1) := by decide +kernel
theorem dX11_is_80 : decode cX11_is 80 = .ok (.getfield 10, 3) := by decide +kernel
theorem dX11_is_83 : decode cX11_is 83 = .ok (.getfield 80, 3) := by decide +kernel
theorem dX11_is_86 : decode cX11_is 86 = .ok (.invokevirtual 285, 3) := by decide +kernel
theorem dX11_is_89 : decode cX11_is 89 = .ok (.ireturn, 1) := by decide +kernel
theorem dX11_is_90 : decode cX11_is 90 = .ok (.bipush (-2), 2) := by decide +kernel
theorem dX11_is_92 : decode cX11_is 92 = .ok (.ireturn, 1) := by decide +kernel
theorem dX11_book_0 : decode cX11_book 0 = .ok (.iload_n 1, 1) := by decide +kernel
theorem dX11_book_1 : decode cX11_book 1 = .ok (.iconst (-1), 1) := by decide +kernel
theorem dX11_book_2 : decode cX11_book 2 = .ok (.if_icmp .ne 11, 3) := by decide +kernel
theorem dX11_book_5 : decode cX11_book 5 = .ok (.aload_n 0, 1) := by decide +kernel
theorem dX11_book_6 : decode cX11_book 6 = .ok (.getfield 19, 3) := by decide +kernel
theorem dX11_book_9 : decode cX11_book 9 = .ok (.getfield 288, 3) := by decide +kernel
theorem dX11_book_12 : decode cX11_book 12 = .ok (.ireturn, 1) := by decide +kernel
theorem dX11_book_13 : decode cX11_book 13 = .ok (.iload_n 1, 1) := by decide +kernel
theorem dX11_book_14 : decode cX11_book 14 = .ok (.iconst 0, 1) := by decide +kernel
theorem dX11_book_15 : decode cX11_book 15 = .ok (.aload_n 0, 1) := by decide +kernel
theorem dX11_book_16 : decode cX11_book 16 = .ok (.getfield 19, 3) := by decide +kernel
theorem dX11_book_19 : decode cX11_book 19 = .ok (.getfield 288, 3) := by decide +kernel
theorem dX11_book_22 : decode cX11_book 22 = .ok (.iconst 1, 1) := by decide +kernel
theorem dX11_book_23 : decode cX11_book 23 = .ok (.isub, 1) := by decide +kernel
theorem dX11_book_24 : decode cX11_book 24 = .ok (.invokestatic 76, 3) := by decide +kernel
theorem dX11_book_27 : decode cX11_book 27 = .ok (.ifCond .eq 12, 3) := by decide +kernel
theorem dX11_book_30 : decode cX11_book 30 = .ok (.iload_n 2, 1) := by decide +kernel
theorem dX11_book_31 : decode cX11_book 31 = .ok (.iconst 0, 1) := by decide +kernel
theorem dX11_book_32 : decode cX11_book 32 = .ok (.iconst 3, 1) := by decide +kernel
theorem dX11_book_33 : decode cX11_book 33 = .ok (.invokestatic 76, 3) := by decide +kernel
theorem dX11_book_36 : decode cX11_book 36 = .ok (.ifCond .ne 6, 3) := by decide +kernel
theorem dX11_book_39 : decode cX11_book 39 = .ok (.bipush (-2), 2) := by decide +kernel
theorem dX11_book_41 : decode cX11_book 41 = .ok (.ireturn, 1) := by decide +kernel
theorem dX11_book_42 : decode cX11_book 42 = .ok (.aload_n 0, 1) := by decide +kernel
theorem dX11_book_43 : decode cX11_book 43 = .ok (.getfield 19, 3) := by decide +kernel
theorem dX11_book_46 : decode cX11_book 46 = .ok (.getfield 291, 3) := by decide +kernel
theorem dX11_book_49 : decode cX11_book 49 = .ok (.iload_n 1, 1) := by decide +kernel
theorem dX11_book_50 : decode cX11_book 50 = .ok (.iconst 4, 1) := by decide +kernel
theorem dX11_book_51 : decode cX11_book 51 = .ok (.imul, 1) := by decide +kernel
theorem dX11_book_52 : decode cX11_book 52 = .ok (.iload_n 2, 1) := by decide +kernel
theorem dX11_book_53 : decode cX11_book 53 = .ok (.iadd, 1) := by decide +kernel
theorem dX11_book_54 : decode cX11_book 54 = .ok (.iaload, 1) := by decide +kernel
theorem dX11_book_55 : decode cX11_book 55 = .ok (.ireturn, 1) := by decide +kernel
theorem dX11_foretold_0 : decode cX11_foretold 0 = .ok (.iload_n 1, 1) := by decide +kernel
theorem dX11_foretold_1 : decode cX11_foretold 1 = .ok (.iconst 1, 1) := by decide +kernel
theorem dX11_foretold_2 : decode cX11_foretold 2 = .ok (.bipush 60, 2) := by decide +kernel
theorem dX11_foretold_4 : decode cX11_foretold 4 = .ok (.invokestatic 76, 3) := by decide +kernel
theorem dX11_foretold_7 : decode cX11_foretold 7 = .ok (.ifCond .eq 28, 3) := by decide +kernel
theorem dX11_foretold_10 : decode cX11_foretold 10 = .ok (.iload_n 2, 1) := by decide +kernel
theorem dX11_foretold_11 : decode cX11_foretold 11 = .ok (.iconst 0, 1) := by decide +kernel
theorem dX11_foretold_12 : decode cX11_foretold 12 = .ok (.iconst 2, 1) := by decide +kernel
theorem dX11_foretold_13 : decode cX11_foretold 13 = .ok (.invokestatic 76, 3) := by decide +kernel
theorem dX11_foretold_16 : decode cX11_foretold 16 = .ok (.ifCond .eq 19, 3) := by decide +kernel
theorem dX11_foretold_19 : decode cX11_foretold 19 = .ok (.iload_n 2, 1) := by decide +kernel
theorem dX11_foretold_20 : decode cX11_foretold 20 = .ok (.iconst 1, 1) := by decide +kernel
theorem dX11_foretold_21 : decode cX11_foretold 21 = .ok (.if_icmp .ne 17, 3) := by decide +kernel
theorem dX11_foretold_24 : decode cX11_foretold 24 = .ok (.aload_n 0, 1) := by decide +kernel
theorem dX11_foretold_25 : decode cX11_foretold 25 = .ok (.getfield 10, 3) := by decide +kernel
theorem dX11_foretold_28 : decode cX11_foretold 28 = .ok (.iload_n 3, 1) := by decide +kernel
theorem dX11_foretold_29 : decode cX11_foretold 29 = .ok (.invokevirtual 111, 3) := by decide +kernel
theorem dX11_foretold_32 : decode cX11_foretold 32 = .ok (.ifCond .ne 6, 3) := by decide +kernel
theorem dX11_foretold_35 : decode cX11_foretold 35 = .ok (.bipush (-2), 2) := by decide +kernel
theorem dX11_foretold_37 : decode cX11_foretold 37 = .ok (.ireturn, 1) := by decide +kernel
theorem dX11_foretold_38 : decode cX11_foretold 38 = .ok (.aload_n 0, 1) := by decide +kernel
theorem dX11_foretold_39 : decode cX11_foretold 39 = .ok (.getfield 73, 3) := by decide +kernel
theorem dX11_foretold_42 : decode cX11_foretold 42 = .ok (.aload_n 0, 1) := by decide +kernel
theorem dX11_foretold_43 : decode cX11_foretold 43 = .ok (.getfield 19, 3) := by decide +kernel
theorem dX11_foretold_46 : decode cX11_foretold 46 = .ok (.invokevirtual 294, 3) := by decide +kernel
theorem dX11_foretold_49 : decode cX11_foretold 49 = .ok (.iload_n 1, 1) := by decide +kernel
theorem dX11_foretold_50 : decode cX11_foretold 50 = .ok (.sipush 9999, 3) := by decide +kernel
theorem dX11_foretold_53 : decode cX11_foretold 53 = .ok (.aload_n 0, 1) := by decide +kernel
theorem dX11_foretold_54 : decode cX11_foretold 54 = .ok (.getfield 19, 3) := by decide +kernel
theorem dX11_foretold_57 : decode cX11_foretold 57 = .ok (.getfield 193, 3) := by decide +kernel
theorem dX11_foretold_60 : decode cX11_foretold 60 = .ok (.isub, 1) := by decide +kernel
theorem dX11_foretold_61 : decode cX11_foretold 61 = .ok (.invokestatic 258, 3) := by decide +kernel
theorem dX11_foretold_64 : decode cX11_foretold 64 = .ok (.istore 4, 2) := by decide +kernel
theorem dX11_foretold_66 : decode cX11_foretold 66 = .ok (.iconst 0, 1) := by decide +kernel
theorem dX11_foretold_67 : decode cX11_foretold 67 = .ok (.istore 5, 2) := by decide +kernel
theorem dX11_foretold_69 : decode cX11_foretold 69 = .ok (.iconst 0, 1) := by decide +kernel
theorem dX11_foretold_70 : decode cX11_foretold 70 = .ok (.istore 6, 2) := by decide +kernel
theorem dX11_foretold_72 : decode cX11_foretold 72 = .ok (.iload 6, 2) := by decide +kernel
theorem dX11_foretold_74 : decode cX11_foretold 74 = .ok (.iload 4, 2) := by decide +kernel
theorem dX11_foretold_76 : decode cX11_foretold 76 = .ok (.if_icmp .ge 25, 3) := by decide +kernel
theorem dX11_foretold_79 : decode cX11_foretold 79 = .ok (.iload 5, 2) := by decide +kernel
theorem dX11_foretold_81 : decode cX11_foretold 81 = .ok (.aload_n 0, 1) := by decide +kernel
theorem dX11_foretold_82 : decode cX11_foretold 82 = .ok (.getfield 60, 3) := by decide +kernel
theorem dX11_foretold_85 : decode cX11_foretold 85 = .ok (.aload_n 0, 1) := by decide +kernel
theorem dX11_foretold_86 : decode cX11_foretold 86 = .ok (.getfield 73, 3) := by decide +kernel
theorem dX11_foretold_89 : decode cX11_foretold 89 = .ok (.invokevirtual 226, 3) := by decide +kernel
theorem dX11_foretold_92 : decode cX11_foretold 92 = .ok (.iadd, 1) := by decide +kernel
theorem dX11_foretold_93 : decode cX11_foretold 93 = .ok (.istore 5, 2) := by decide +kernel
theorem dX11_foretold_95 : decode cX11_foretold 95 = .ok (.iinc 6 1, 3) := by decide +kernel
theorem dX11_foretold_98 : decode cX11_foretold 98 = .ok (.goto (-26), 3) := by decide +kernel
theorem dX11_foretold_101 : decode cX11_foretold 101 = .ok (.iload_n 2, 1) := by decide +kernel
theorem dX11_foretold_102 : decode cX11_foretold 102 = .ok (.ifCond .ne 11, 3) := by decide +kernel
theorem dX11_foretold_105 : decode cX11_foretold 105 = .ok (.aload_n 0, 1) := by decide +kernel
theorem dX11_foretold_106 : decode cX11_foretold 106 = .ok (.getfield 73, 3) := by decide +kernel
theorem dX11_foretold_109 : decode cX11_foretold 109 = .ok (.getfield 278, 3) := by decide +kernel
theorem dX11_foretold_112 : decode cX11_foretold 112 = .ok (.ireturn, 1) := by decide +kernel
theorem dX11_foretold_113 : decode cX11_foretold 113 = .ok (.iload_n 2, 1) := by decide +kernel
theorem dX11_foretold_114 : decode cX11_foretold 114 = .ok (.iconst 1, 1) := by decide +kernel
theorem dX11_foretold_115 : decode cX11_foretold 115 = .ok (.if_icmp .ne 15, 3) := by decide +kernel
theorem dX11_foretold_118 : decode cX11_foretold 118 = .ok (.aload_n 0, 1) := by decide +kernel
theorem dX11_foretold_119 : decode cX11_foretold 119 = .ok (.getfield 73, 3) := by decide +kernel
theorem dX11_foretold_122 : decode cX11_foretold 122 = .ok (.getfield 182, 3) := by decide +kernel
theorem dX11_foretold_125 : decode cX11_foretold 125 = .ok (.iload_n 3, 1) := by decide +kernel
theorem dX11_foretold_126 : decode cX11_foretold 126 = .ok (.iaload, 1) := by decide +kernel
theorem dX11_foretold_127 : decode cX11_foretold 127 = .ok (.goto 5, 3) := by decide +kernel
theorem dX11_foretold_130 : decode cX11_foretold 130 = .ok (.iload 5, 2) := by decide +kernel
theorem dX11_foretold_132 : decode cX11_foretold 132 = .ok (.ireturn, 1) := by decide +kernel
theorem dX11_order_0 : decode cX11_order 0 = .ok (.iload_n 1, 1) := by decide +kernel
theorem dX11_order_1 : decode cX11_order 1 = .ok (.invokestatic 297, 3) := by decide +kernel
theorem dX11_order_4 : decode cX11_order 4 = .ok (.istore_n 3, 1) := by decide +kernel
theorem dX11_order_5 : decode cX11_order 5 = .ok (.aload_n 0, 1) := by decide +kernel
theorem dX11_order_6 : decode cX11_order 6 = .ok (.getfield 10, 3) := by decide +kernel
theorem dX11_order_9 : decode cX11_order 9 = .ok (.iload_n 1, 1) := by decide +kernel
theorem dX11_order_10 : decode cX11_order 10 = .ok (.invokevirtual 302, 3) := by decide +kernel
theorem dX11_order_13 : decode cX11_order 13 = .ok (.ifCond .eq 23, 3) := by decide +kernel
theorem dX11_order_16 : decode cX11_order 16 = .ok (.iload_n 3, 1) := by decide +kernel
theorem dX11_order_17 : decode cX11_order 17 = .ok (.iconst 1, 1) := by decide +kernel
theorem dX11_order_18 : decode cX11_order 18 = .ok (.iconst 5, 1) := by decide +kernel
theorem dX11_order_19 : decode cX11_order 19 = .ok (.invokestatic 76, 3) := by decide +kernel
theorem dX11_order_22 : decode cX11_order 22 = .ok (.ifCond .eq 14, 3) := by decide +kernel
theorem dX11_order_25 : decode cX11_order 25 = .ok (.iload_n 2, 1) := by decide +kernel
theorem dX11_order_26 : decode cX11_order 26 = .ok (.iconst (-1), 1) := by decide +kernel
theorem dX11_order_27 : decode cX11_order 27 = .ok (.iload_n 3, 1) := by decide +kernel
theorem dX11_order_28 : decode cX11_order 28 = .ok (.iconst 1, 1) := by decide +kernel
theorem dX11_order_29 : decode cX11_order 29 = .ok (.isub, 1) := by decide +kernel
theorem dX11_order_30 : decode cX11_order 30 = .ok (.invokestatic 76, 3) := by decide +kernel
theorem dX11_order_33 : decode cX11_order 33 = .ok (.ifCond .ne 6, 3) := by decide +kernel
theorem dX11_order_36 : decode cX11_order 36 = .ok (.bipush (-2), 2) := by decide +kernel
theorem dX11_order_38 : decode cX11_order 38 = .ok (.ireturn, 1) := by decide +kernel
theorem dX11_order_39 : decode cX11_order 39 = .ok (.iconst 0, 1) := by decide +kernel
theorem dX11_order_40 : decode cX11_order 40 = .ok (.istore 4, 2) := by decide +kernel
theorem dX11_order_42 : decode cX11_order 42 = .ok (.iload 4, 2) := by decide +kernel
theorem dX11_order_44 : decode cX11_order 44 = .ok (.aload_n 0, 1) := by decide +kernel
theorem dX11_order_45 : decode cX11_order 45 = .ok (.getfield 10, 3) := by decide +kernel
theorem dX11_order_48 : decode cX11_order 48 = .ok (.getfield 80, 3) := by decide +kernel
theorem dX11_order_51 : decode cX11_order 51 = .ok (.if_icmp .ge 34, 3) := by decide +kernel
theorem dX11_order_54 : decode cX11_order 54 = .ok (.iload_n 1, 1) := by decide +kernel
theorem dX11_order_55 : decode cX11_order 55 = .ok (.iload 4, 2) := by decide +kernel
theorem dX11_order_57 : decode cX11_order 57 = .ok (.ishr, 1) := by decide +kernel
theorem dX11_order_58 : decode cX11_order 58 = .ok (.iconst 1, 1) := by decide +kernel
theorem dX11_order_59 : decode cX11_order 59 = .ok (.iand, 1) := by decide +kernel
theorem dX11_order_60 : decode cX11_order 60 = .ok (.ifCond .eq 19, 3) := by decide +kernel
theorem dX11_order_63 : decode cX11_order 63 = .ok (.aload_n 0, 1) := by decide +kernel
theorem dX11_order_64 : decode cX11_order 64 = .ok (.getfield 19, 3) := by decide +kernel
theorem dX11_order_67 : decode cX11_order 67 = .ok (.getfield 182, 3) := by decide +kernel
theorem dX11_order_70 : decode cX11_order 70 = .ok (.iload 4, 2) := by decide +kernel
theorem dX11_order_72 : decode cX11_order 72 = .ok (.iaload, 1) := by decide +kernel
theorem dX11_order_73 : decode cX11_order 73 = .ok (.ifCond .eq 6, 3) := by decide +kernel
theorem dX11_order_76 : decode cX11_order 76 = .ok (.bipush (-2), 2) := by decide +kernel
theorem dX11_order_78 : decode cX11_order 78 = .ok (.ireturn, 1) := by decide +kernel
theorem dX11_order_79 : decode cX11_order 79 = .ok (.iinc 4 1, 3) := by decide +kernel
theorem dX11_order_82 : decode cX11_order 82 = .ok (.goto (-40), 3) := by decide +kernel
theorem dX11_order_85 : decode cX11_order 85 = .ok (.aload_n 0, 1) := by decide +kernel
theorem dX11_order_86 : decode cX11_order 86 = .ok (.getfield 73, 3) := by decide +kernel
theorem dX11_order_89 : decode cX11_order 89 = .ok (.aload_n 0, 1) := by decide +kernel
theorem dX11_order_90 : decode cX11_order 90 = .ok (.getfield 19, 3) := by decide +kernel
theorem dX11_order_93 : decode cX11_order 93 = .ok (.invokevirtual 294, 3) := by decide +kernel
theorem dX11_order_96 : decode cX11_order 96 = .ok (.aload_n 0, 1) := by decide +kernel
theorem dX11_order_97 : decode cX11_order 97 = .ok (.getfield 69, 3) := by decide +kernel
theorem dX11_order_100 : decode cX11_order 100 = .ok (.aload_n 0, 1) := by decide +kernel
theorem dX11_order_101 : decode cX11_order 101 = .ok (.getfield 73, 3) := by decide +kernel
theorem dX11_order_104 : decode cX11_order 104 = .ok (.iload_n 1, 1) := by decide +kernel
theorem dX11_order_105 : decode cX11_order 105 = .ok (.invokevirtual 305, 3) := by decide +kernel
theorem dX11_order_108 : decode cX11_order 108 = .ok (.iload_n 2, 1) := by decide +kernel
theorem dX11_order_109 : decode cX11_order 109 = .ok (.iconst (-1), 1) := by decide +kernel
theorem dX11_order_110 : decode cX11_order 110 = .ok (.if_icmp .ne 13, 3) := by decide +kernel
theorem dX11_order_113 : decode cX11_order 113 = .ok (.aload_n 0, 1) := by decide +kernel
theorem dX11_order_114 : decode cX11_order 114 = .ok (.getfield 69, 3) := by decide +kernel
theorem dX11_order_117 : decode cX11_order 117 = .ok (.getfield 308, 3) := by decide +kernel
theorem dX11_order_120 : decode cX11_order 120 = .ok (.goto 12, 3) := by decide +kernel
theorem dX11_order_123 : decode cX11_order 123 = .ok (.aload_n 0, 1) := by decide +kernel
theorem dX11_order_124 : decode cX11_order 124 = .ok (.getfield 69, 3) := by decide +kernel
theorem dX11_order_127 : decode cX11_order 127 = .ok (.getfield 311, 3) := by decide +kernel
theorem dX11_order_130 : decode cX11_order 130 = .ok (.iload_n 2, 1) := by decide +kernel
theorem dX11_order_131 : decode cX11_order 131 = .ok (.iaload, 1) := by decide +kernel
theorem dX11_order_132 : decode cX11_order 132 = .ok (.ireturn, 1) := by decide +kernel
theorem dX11_bundle_0 : decode cX11_bundle 0 = .ok (.iload_n 1, 1) := by decide +kernel
theorem dX11_bundle_1 : decode cX11_bundle 1 = .ok (.iconst (-1), 1) := by decide +kernel
theorem dX11_bundle_2 : decode cX11_bundle 2 = .ok (.if_icmp .ne 13, 3) := by decide +kernel
theorem dX11_bundle_5 : decode cX11_bundle 5 = .ok (.aload_n 0, 1) := by decide +kernel
theorem dX11_bundle_6 : decode cX11_bundle 6 = .ok (.getfield 10, 3) := by decide +kernel
theorem dX11_bundle_9 : decode cX11_bundle 9 = .ok (.iconst 0, 1) := by decide +kernel
theorem dX11_bundle_10 : decode cX11_bundle 10 = .ok (.putfield 314, 3) := by decide +kernel
theorem dX11_bundle_13 : decode cX11_bundle 13 = .ok (.iconst 0, 1) := by decide +kernel
theorem dX11_bundle_14 : decode cX11_bundle 14 = .ok (.ireturn, 1) := by decide +kernel
theorem dX11_bundle_15 : decode cX11_bundle 15 = .ok (.aload_n 0, 1) := by decide +kernel
theorem dX11_bundle_16 : decode cX11_bundle 16 = .ok (.getfield 10, 3) := by decide +kernel
theorem dX11_bundle_19 : decode cX11_bundle 19 = .ok (.iload_n 1, 1) := by decide +kernel
theorem dX11_bundle_20 : decode cX11_bundle 20 = .ok (.invokevirtual 107, 3) := by decide +kernel
theorem dX11_bundle_23 : decode cX11_bundle 23 = .ok (.ifCond .eq 29, 3) := by decide +kernel
theorem dX11_bundle_26 : decode cX11_bundle 26 = .ok (.iload_n 2, 1) := by decide +kernel
theorem dX11_bundle_27 : decode cX11_bundle 27 = .ok (.ifCond .eq 25, 3) := by decide +kernel
theorem dX11_bundle_30 : decode cX11_bundle 30 = .ok (.aload_n 0, 1) := by decide +kernel
theorem dX11_bundle_31 : decode cX11_bundle 31 = .ok (.getfield 10, 3) := by decide +kernel
theorem dX11_bundle_34 : decode cX11_bundle 34 = .ok (.iload_n 2, 1) := by decide +kernel
theorem dX11_bundle_35 : decode cX11_bundle 35 = .ok (.invokevirtual 302, 3) := by decide +kernel
theorem dX11_bundle_38 : decode cX11_bundle 38 = .ok (.ifCond .eq 14, 3) := by decide +kernel
theorem dX11_bundle_41 : decode cX11_bundle 41 = .ok (.iload_n 3, 1) := by decide +kernel
theorem dX11_bundle_42 : decode cX11_bundle 42 = .ok (.iconst 0, 1) := by decide +kernel
theorem dX11_bundle_43 : decode cX11_bundle 43 = .ok (.sipush 9999, 3) := by decide +kernel
theorem dX11_bundle_46 : decode cX11_bundle 46 = .ok (.invokestatic 76, 3) := by decide +kernel
theorem dX11_bundle_49 : decode cX11_bundle 49 = .ok (.ifCond .ne 6, 3) := by decide +kernel
theorem dX11_bundle_52 : decode cX11_bundle 52 = .ok (.bipush (-2), 2) := by decide +kernel
theorem dX11_bundle_54 : decode cX11_bundle 54 = .ok (.ireturn, 1) := by decide +kernel
theorem dX11_bundle_55 : decode cX11_bundle 55 = .ok (.aload_n 0, 1) := by decide +kernel
theorem dX11_bundle_56 : decode cX11_bundle 56 = .ok (.getfield 10, 3) := by decide +kernel
theorem dX11_bundle_59 : decode cX11_bundle 59 = .ok (.getfield 314, 3) := by decide +kernel
theorem dX11_bundle_62 : decode cX11_bundle 62 = .ok (.bipush 8, 2) := by decide +kernel
theorem dX11_bundle_64 : decode cX11_bundle 64 = .ok (.if_icmp .lt 6, 3) := by decide +kernel
theorem dX11_bundle_67 : decode cX11_bundle 67 = .ok (.bipush (-2), 2) := by decide +kernel
theorem dX11_bundle_69 : decode cX11_bundle 69 = .ok (.ireturn, 1) := by decide +kernel
theorem dX11_bundle_70 : decode cX11_bundle 70 = .ok (.aload_n 0, 1) := by decide +kernel
theorem dX11_bundle_71 : decode cX11_bundle 71 = .ok (.getfield 10, 3) := by decide +kernel
theorem dX11_bundle_74 : decode cX11_bundle 74 = .ok (.getfield 317, 3) := by decide +kernel
theorem dX11_bundle_77 : decode cX11_bundle 77 = .ok (.aload_n 0, 1) := by decide +kernel
theorem dX11_bundle_78 : decode cX11_bundle 78 = .ok (.getfield 10, 3) := by decide +kernel
theorem dX11_bundle_81 : decode cX11_bundle 81 = .ok (.getfield 314, 3) := by decide +kernel
theorem dX11_bundle_84 : decode cX11_bundle 84 = .ok (.iload_n 1, 1) := by decide +kernel
theorem dX11_bundle_85 : decode cX11_bundle 85 = .ok (.iastore, 1) := by decide +kernel
theorem dX11_bundle_86 : decode cX11_bundle 86 = .ok (.aload_n 0, 1) := by decide +kernel
theorem dX11_bundle_87 : decode cX11_bundle 87 = .ok (.getfield 10, 3) := by decide +kernel
theorem dX11_bundle_90 : decode cX11_bundle 90 = .ok (.getfield 320, 3) := by decide +kernel
theorem dX11_bundle_93 : decode cX11_bundle 93 = .ok (.aload_n 0, 1) := by decide +kernel
theorem dX11_bundle_94 : decode cX11_bundle 94 = .ok (.getfield 10, 3) := by decide +kernel
theorem dX11_bundle_97 : decode cX11_bundle 97 = .ok (.getfield 314, 3) := by decide +kernel
theorem dX11_bundle_100 : decode cX11_bundle 100 = .ok (.iload_n 2, 1) := by decide +kernel
theorem dX11_bundle_101 : decode cX11_bundle 101 = .ok (.iastore, 1) := by decide +kernel
theorem dX11_bundle_102 : decode cX11_bundle 102 = .ok (.aload_n 0, 1) := by decide +kernel
theorem dX11_bundle_103 : decode cX11_bundle 103 = .ok (.getfield 10, 3) := by decide +kernel
theorem dX11_bundle_106 : decode cX11_bundle 106 = .ok (.getfield 323, 3) := by decide +kernel
theorem dX11_bundle_109 : decode cX11_bundle 109 = .ok (.aload_n 0, 1) := by decide +kernel
theorem dX11_bundle_110 : decode cX11_bundle 110 = .ok (.getfield 10, 3) := by decide +kernel
theorem dX11_bundle_113 : decode cX11_bundle 113 = .ok (.getfield 314, 3) := by decide +kernel
theorem dX11_bundle_116 : decode cX11_bundle 116 = .ok (.iload_n 3, 1) := by decide +kernel
theorem dX11_bundle_117 : decode cX11_bundle 117 = .ok (.iastore, 1) := by decide +kernel
theorem dX11_bundle_118 : decode cX11_bundle 118 = .ok (.aload_n 0, 1) := by decide +kernel
theorem dX11_bundle_119 : decode cX11_bundle 119 = .ok (.getfield 10, 3) := by decide +kernel
theorem dX11_bundle_122 : decode cX11_bundle 122 = .ok (.dup, 1) := by decide +kernel
theorem dX11_bundle_123 : decode cX11_bundle 123 = .ok (.getfield 314, 3) := by decide +kernel
theorem dX11_bundle_126 : decode cX11_bundle 126 = .ok (.iconst 1, 1) := by decide +kernel
theorem dX11_bundle_127 : decode cX11_bundle 127 = .ok (.iadd, 1) := by decide +kernel
theorem dX11_bundle_128 : decode cX11_bundle 128 = .ok (.putfield 314, 3) := by decide +kernel
theorem dX11_bundle_131 : decode cX11_bundle 131 = .ok (.aload_n 0, 1) := by decide +kernel
theorem dX11_bundle_132 : decode cX11_bundle 132 = .ok (.getfield 10, 3) := by decide +kernel
theorem dX11_bundle_135 : decode cX11_bundle 135 = .ok (.getfield 314, 3) := by decide +kernel
theorem dX11_bundle_138 : decode cX11_bundle 138 = .ok (.ireturn, 1) := by decide +kernel
theorem dX11_winners_0 : decode cX11_winners 0 = .ok (.aload_n 0, 1) := by decide +kernel
theorem dX11_winners_1 : decode cX11_winners 1 = .ok (.getfield 69, 3) := by decide +kernel
theorem dX11_winners_4 : decode cX11_winners 4 = .ok (.iconst (-1), 1) := by decide +kernel
theorem dX11_winners_5 : decode cX11_winners 5 = .ok (.invokevirtual 326, 3) := by decide +kernel
theorem dX11_winners_8 : decode cX11_winners 8 = .ok (.istore_n 2, 1) := by decide +kernel
theorem dX11_winners_9 : decode cX11_winners 9 = .ok (.iload_n 1, 1) := by decide +kernel
theorem dX11_winners_10 : decode cX11_winners 10 = .ok (.ifCond .eq 15, 3) := by decide +kernel
theorem dX11_winners_13 : decode cX11_winners 13 = .ok (.aload_n 0, 1) := by decide +kernel
theorem dX11_winners_14 : decode cX11_winners 14 = .ok (.getfield 69, 3) := by decide +kernel
theorem dX11_winners_17 : decode cX11_winners 17 = .ok (.iload_n 2, 1) := by decide +kernel
theorem dX11_winners_18 : decode cX11_winners 18 = .ok (.iconst (-1), 1) := by decide +kernel
theorem dX11_winners_19 : decode cX11_winners 19 = .ok (.invokevirtual 329, 3) := by decide +kernel
theorem dX11_winners_22 : decode cX11_winners 22 = .ok (.goto 4, 3) := by decide +kernel
theorem dX11_winners_25 : decode cX11_winners 25 = .ok (.iload_n 2, 1) := by decide +kernel
theorem dX11_winners_26 : decode cX11_winners 26 = .ok (.ireturn, 1) := by decide +kernel
theorem dX11_pays_0 : decode cX11_pays 0 = .ok (.aload_n 0, 1) := by decide +kernel
theorem dX11_pays_1 : decode cX11_pays 1 = .ok (.getfield 10, 3) := by decide +kernel
theorem dX11_pays_4 : decode cX11_pays 4 = .ok (.iload_n 1, 1) := by decide +kernel
theorem dX11_pays_5 : decode cX11_pays 5 = .ok (.invokevirtual 107, 3) := by decide +kernel
theorem dX11_pays_8 : decode cX11_pays 8 = .ok (.ifCond .ne 5, 3) := by decide +kernel
theorem dX11_pays_11 : decode cX11_pays 11 = .ok (.iconst (-1), 1) := by decide +kernel
theorem dX11_pays_12 : decode cX11_pays 12 = .ok (.ireturn, 1) := by decide +kernel
theorem dX11_pays_13 : decode cX11_pays 13 = .ok (.aload_n 0, 1) := by decide +kernel
theorem dX11_pays_14 : decode cX11_pays 14 = .ok (.getfield 69, 3) := by decide +kernel
theorem dX11_pays_17 : decode cX11_pays 17 = .ok (.aload_n 0, 1) := by decide +kernel
theorem dX11_pays_18 : decode cX11_pays 18 = .ok (.getfield 69, 3) := by decide +kernel
theorem dX11_pays_21 : decode cX11_pays 21 = .ok (.iload_n 1, 1) := by decide +kernel
theorem dX11_pays_22 : decode cX11_pays 22 = .ok (.invokevirtual 326, 3) := by decide +kernel
theorem dX11_pays_25 : decode cX11_pays 25 = .ok (.iconst (-1), 1) := by decide +kernel
theorem dX11_pays_26 : decode cX11_pays 26 = .ok (.invokevirtual 329, 3) := by decide +kernel
theorem dX11_pays_29 : decode cX11_pays 29 = .ok (.istore_n 2, 1) := by decide +kernel
theorem dX11_pays_30 : decode cX11_pays 30 = .ok (.iload_n 2, 1) := by decide +kernel
theorem dX11_pays_31 : decode cX11_pays 31 = .ok (.aload_n 0, 1) := by decide +kernel
theorem dX11_pays_32 : decode cX11_pays 32 = .ok (.getfield 69, 3) := by decide +kernel
theorem dX11_pays_35 : decode cX11_pays 35 = .ok (.aload_n 0, 1) := by decide +kernel
theorem dX11_pays_36 : decode cX11_pays 36 = .ok (.getfield 69, 3) := by decide +kernel
theorem dX11_pays_39 : decode cX11_pays 39 = .ok (.iconst (-1), 1) := by decide +kernel
theorem dX11_pays_40 : decode cX11_pays 40 = .ok (.invokevirtual 326, 3) := by decide +kernel
theorem dX11_pays_43 : decode cX11_pays 43 = .ok (.iload_n 1, 1) := by decide +kernel
theorem dX11_pays_44 : decode cX11_pays 44 = .ok (.invokevirtual 329, 3) := by decide +kernel
theorem dX11_pays_47 : decode cX11_pays 47 = .ok (.isub, 1) := by decide +kernel
theorem dX11_pays_48 : decode cX11_pays 48 = .ok (.ireturn, 1) := by decide +kernel
theorem dX11_kept_0 : decode cX11_kept 0 = .ok (.iload_n 1, 1) := by decide +kernel
theorem dX11_kept_1 : decode cX11_kept 1 = .ok (.iconst 1, 1) := by decide +kernel
theorem dX11_kept_2 : decode cX11_kept 2 = .ok (.bipush 12, 2) := by decide +kernel
theorem dX11_kept_4 : decode cX11_kept 4 = .ok (.invokestatic 76, 3) := by decide +kernel
theorem dX11_kept_7 : decode cX11_kept 7 = .ok (.ifCond .ne 5, 3) := by decide +kernel
theorem dX11_kept_10 : decode cX11_kept 10 = .ok (.iconst (-1), 1) := by decide +kernel
theorem dX11_kept_11 : decode cX11_kept 11 = .ok (.ireturn, 1) := by decide +kernel
theorem dX11_kept_12 : decode cX11_kept 12 = .ok (.aload_n 0, 1) := by decide +kernel
theorem dX11_kept_13 : decode cX11_kept 13 = .ok (.getfield 69, 3) := by decide +kernel
theorem dX11_kept_16 : decode cX11_kept 16 = .ok (.aload_n 0, 1) := by decide +kernel
theorem dX11_kept_17 : decode cX11_kept 17 = .ok (.getfield 19, 3) := by decide +kernel
theorem dX11_kept_20 : decode cX11_kept 20 = .ok (.iload_n 1, 1) := by decide +kernel
theorem dX11_kept_21 : decode cX11_kept 21 = .ok (.invokevirtual 332, 3) := by decide +kernel
theorem dX11_kept_24 : decode cX11_kept 24 = .ok (.istore_n 3, 1) := by decide +kernel
theorem dX11_kept_25 : decode cX11_kept 25 = .ok (.iload_n 2, 1) := by decide +kernel
theorem dX11_kept_26 : decode cX11_kept 26 = .ok (.ifCond .ne 5, 3) := by decide +kernel
theorem dX11_kept_29 : decode cX11_kept 29 = .ok (.iload_n 3, 1) := by decide +kernel
theorem dX11_kept_30 : decode cX11_kept 30 = .ok (.ireturn, 1) := by decide +kernel
theorem dX11_kept_31 : decode cX11_kept 31 = .ok (.iconst 0, 1) := by decide +kernel
theorem dX11_kept_32 : decode cX11_kept 32 = .ok (.istore 4, 2) := by decide +kernel
theorem dX11_kept_34 : decode cX11_kept 34 = .ok (.iconst 0, 1) := by decide +kernel
theorem dX11_kept_35 : decode cX11_kept 35 = .ok (.istore 5, 2) := by decide +kernel
theorem dX11_kept_37 : decode cX11_kept 37 = .ok (.iload 5, 2) := by decide +kernel
theorem dX11_kept_39 : decode cX11_kept 39 = .ok (.aload_n 0, 1) := by decide +kernel
theorem dX11_kept_40 : decode cX11_kept 40 = .ok (.getfield 10, 3) := by decide +kernel
theorem dX11_kept_43 : decode cX11_kept 43 = .ok (.getfield 80, 3) := by decide +kernel
theorem dX11_kept_46 : decode cX11_kept 46 = .ok (.if_icmp .ge 31, 3) := by decide +kernel
theorem dX11_kept_49 : decode cX11_kept 49 = .ok (.iload 4, 2) := by decide +kernel
theorem dX11_kept_51 : decode cX11_kept 51 = .ok (.iload_n 3, 1) := by decide +kernel
theorem dX11_kept_52 : decode cX11_kept 52 = .ok (.iload 5, 2) := by decide +kernel
theorem dX11_kept_54 : decode cX11_kept 54 = .ok (.ishr, 1) := by decide +kernel
theorem dX11_kept_55 : decode cX11_kept 55 = .ok (.iconst 1, 1) := by decide +kernel
theorem dX11_kept_56 : decode cX11_kept 56 = .ok (.iand, 1) := by decide +kernel
theorem dX11_kept_57 : decode cX11_kept 57 = .ok (.aload_n 0, 1) := by decide +kernel
theorem dX11_kept_58 : decode cX11_kept 58 = .ok (.getfield 10, 3) := by decide +kernel
theorem dX11_kept_61 : decode cX11_kept 61 = .ok (.getfield 84, 3) := by decide +kernel
theorem dX11_kept_64 : decode cX11_kept 64 = .ok (.iload 5, 2) := by decide +kernel
theorem dX11_kept_66 : decode cX11_kept 66 = .ok (.iaload, 1) := by decide +kernel
theorem dX11_kept_67 : decode cX11_kept 67 = .ok (.imul, 1) := by decide +kernel
theorem dX11_kept_68 : decode cX11_kept 68 = .ok (.iadd, 1) := by decide +kernel
theorem dX11_kept_69 : decode cX11_kept 69 = .ok (.istore 4, 2) := by decide +kernel
theorem dX11_kept_71 : decode cX11_kept 71 = .ok (.iinc 5 1, 3) := by decide +kernel
theorem dX11_kept_74 : decode cX11_kept 74 = .ok (.goto (-37), 3) := by decide +kernel
theorem dX11_kept_77 : decode cX11_kept 77 = .ok (.iload 4, 2) := by decide +kernel
theorem dX11_kept_79 : decode cX11_kept 79 = .ok (.ireturn, 1) := by decide +kernel
theorem dX11_stair_0 : decode cX11_stair 0 = .ok (.iload_n 1, 1) := by decide +kernel
theorem dX11_stair_1 : decode cX11_stair 1 = .ok (.iload_n 2, 1) := by decide +kernel
theorem dX11_stair_2 : decode cX11_stair 2 = .ok (.invokestatic 335, 3) := by decide +kernel
theorem dX11_stair_5 : decode cX11_stair 5 = .ok (.ifCond .eq 18, 3) := by decide +kernel
theorem dX11_stair_8 : decode cX11_stair 8 = .ok (.aload_n 0, 1) := by decide +kernel
theorem dX11_stair_9 : decode cX11_stair 9 = .ok (.getfield 10, 3) := by decide +kernel
theorem dX11_stair_12 : decode cX11_stair 12 = .ok (.getfield 338, 3) := by decide +kernel
theorem dX11_stair_15 : decode cX11_stair 15 = .ok (.iload_n 1, 1) := by decide +kernel
theorem dX11_stair_16 : decode cX11_stair 16 = .ok (.iload_n 2, 1) := by decide +kernel
theorem dX11_stair_17 : decode cX11_stair 17 = .ok (.invokevirtual 342, 3) := by decide +kernel
theorem dX11_stair_20 : decode cX11_stair 20 = .ok (.ifCond .eq 5, 3) := by decide +kernel
theorem dX11_stair_23 : decode cX11_stair 23 = .ok (.iconst 0, 1) := by decide +kernel
theorem dX11_stair_24 : decode cX11_stair 24 = .ok (.ireturn, 1) := by decide +kernel
theorem dX11_stair_25 : decode cX11_stair 25 = .ok (.aload_n 0, 1) := by decide +kernel
theorem dX11_stair_26 : decode cX11_stair 26 = .ok (.getfield 10, 3) := by decide +kernel
theorem dX11_stair_29 : decode cX11_stair 29 = .ok (.getfield 338, 3) := by decide +kernel
theorem dX11_stair_32 : decode cX11_stair 32 = .ok (.iload_n 1, 1) := by decide +kernel
theorem dX11_stair_33 : decode cX11_stair 33 = .ok (.iload_n 2, 1) := by decide +kernel
theorem dX11_stair_34 : decode cX11_stair 34 = .ok (.invokevirtual 347, 3) := by decide +kernel
theorem dX11_stair_37 : decode cX11_stair 37 = .ok (.iconst 1, 1) := by decide +kernel
theorem dX11_stair_38 : decode cX11_stair 38 = .ok (.ireturn, 1) := by decide +kernel
theorem dX11_gone_0 : decode cX11_gone 0 = .ok (.iload_n 1, 1) := by decide +kernel
theorem dX11_gone_1 : decode cX11_gone 1 = .ok (.iload_n 2, 1) := by decide +kernel
theorem dX11_gone_2 : decode cX11_gone 2 = .ok (.invokestatic 335, 3) := by decide +kernel
theorem dX11_gone_5 : decode cX11_gone 5 = .ok (.ifCond .eq 18, 3) := by decide +kernel
theorem dX11_gone_8 : decode cX11_gone 8 = .ok (.aload_n 0, 1) := by decide +kernel
theorem dX11_gone_9 : decode cX11_gone 9 = .ok (.getfield 10, 3) := by decide +kernel
theorem dX11_gone_12 : decode cX11_gone 12 = .ok (.getfield 338, 3) := by decide +kernel
theorem dX11_gone_15 : decode cX11_gone 15 = .ok (.iload_n 1, 1) := by decide +kernel
theorem dX11_gone_16 : decode cX11_gone 16 = .ok (.iload_n 2, 1) := by decide +kernel
theorem dX11_gone_17 : decode cX11_gone 17 = .ok (.invokevirtual 342, 3) := by decide +kernel
theorem dX11_gone_20 : decode cX11_gone 20 = .ok (.ifCond .ne 5, 3) := by decide +kernel
theorem dX11_gone_23 : decode cX11_gone 23 = .ok (.iconst 0, 1) := by decide +kernel
theorem dX11_gone_24 : decode cX11_gone 24 = .ok (.ireturn, 1) := by decide +kernel
theorem dX11_gone_25 : decode cX11_gone 25 = .ok (.aload_n 0, 1) := by decide +kernel
theorem dX11_gone_26 : decode cX11_gone 26 = .ok (.getfield 10, 3) := by decide +kernel
theorem dX11_gone_29 : decode cX11_gone 29 = .ok (.getfield 338, 3) := by decide +kernel
theorem dX11_gone_32 : decode cX11_gone 32 = .ok (.iload_n 1, 1) := by decide +kernel
theorem dX11_gone_33 : decode cX11_gone 33 = .ok (.iload_n 2, 1) := by decide +kernel
theorem dX11_gone_34 : decode cX11_gone 34 = .ok (.invokevirtual 347, 3) := by decide +kernel
theorem dX11_gone_37 : decode cX11_gone 37 = .ok (.iconst 1, 1) := by decide +kernel
theorem dX11_gone_38 : decode cX11_gone 38 = .ok (.ireturn, 1) := by decide +kernel
theorem dX11_climb_0 : decode cX11_climb 0 = .ok (.iload_n 1, 1) := by decide +kernel
theorem dX11_climb_1 : decode cX11_climb 1 = .ok (.iconst 0, 1) := by decide +kernel
theorem dX11_climb_2 : decode cX11_climb 2 = .ok (.iconst 5, 1) := by decide +kernel
theorem dX11_climb_3 : decode cX11_climb 3 = .ok (.invokestatic 76, 3) := by decide +kernel
theorem dX11_climb_6 : decode cX11_climb 6 = .ok (.ifCond .eq 12, 3) := by decide +kernel
theorem dX11_climb_9 : decode cX11_climb 9 = .ok (.iload_n 2, 1) := by decide +kernel
theorem dX11_climb_10 : decode cX11_climb 10 = .ok (.iconst 0, 1) := by decide +kernel
theorem dX11_climb_11 : decode cX11_climb 11 = .ok (.iconst 5, 1) := by decide +kernel
theorem dX11_climb_12 : decode cX11_climb 12 = .ok (.invokestatic 76, 3) := by decide +kernel
theorem dX11_climb_15 : decode cX11_climb 15 = .ok (.ifCond .ne 5, 3) := by decide +kernel
theorem dX11_climb_18 : decode cX11_climb 18 = .ok (.iconst (-1), 1) := by decide +kernel
theorem dX11_climb_19 : decode cX11_climb 19 = .ok (.ireturn, 1) := by decide +kernel
theorem dX11_climb_20 : decode cX11_climb 20 = .ok (.aload_n 0, 1) := by decide +kernel
theorem dX11_climb_21 : decode cX11_climb 21 = .ok (.getfield 10, 3) := by decide +kernel
theorem dX11_climb_24 : decode cX11_climb 24 = .ok (.getfield 338, 3) := by decide +kernel
theorem dX11_climb_27 : decode cX11_climb 27 = .ok (.iload_n 1, 1) := by decide +kernel
theorem dX11_climb_28 : decode cX11_climb 28 = .ok (.iload_n 2, 1) := by decide +kernel
theorem dX11_climb_29 : decode cX11_climb 29 = .ok (.invokevirtual 350, 3) := by decide +kernel
theorem dX11_climb_32 : decode cX11_climb 32 = .ok (.ireturn, 1) := by decide +kernel
theorem dX11_cut_0 : decode cX11_cut 0 = .ok (.iload_n 1, 1) := by decide +kernel
theorem dX11_cut_1 : decode cX11_cut 1 = .ok (.iload_n 2, 1) := by decide +kernel
theorem dX11_cut_2 : decode cX11_cut 2 = .ok (.invokestatic 335, 3) := by decide +kernel
theorem dX11_cut_5 : decode cX11_cut 5 = .ok (.ifCond .eq 18, 3) := by decide +kernel
theorem dX11_cut_8 : decode cX11_cut 8 = .ok (.aload_n 0, 1) := by decide +kernel
theorem dX11_cut_9 : decode cX11_cut 9 = .ok (.getfield 10, 3) := by decide +kernel
theorem dX11_cut_12 : decode cX11_cut 12 = .ok (.getfield 338, 3) := by decide +kernel
theorem dX11_cut_15 : decode cX11_cut 15 = .ok (.iload_n 1, 1) := by decide +kernel
theorem dX11_cut_16 : decode cX11_cut 16 = .ok (.iload_n 2, 1) := by decide +kernel
theorem dX11_cut_17 : decode cX11_cut 17 = .ok (.invokevirtual 353, 3) := by decide +kernel
theorem dX11_cut_20 : decode cX11_cut 20 = .ok (.goto 4, 3) := by decide +kernel
theorem dX11_cut_23 : decode cX11_cut 23 = .ok (.iconst (-1), 1) := by decide +kernel
theorem dX11_cut_24 : decode cX11_cut 24 = .ok (.ireturn, 1) := by decide +kernel
theorem dX11_bridges_0 : decode cX11_bridges 0 = .ok (.aload_n 0, 1) := by decide +kernel
theorem dX11_bridges_1 : decode cX11_bridges 1 = .ok (.getfield 10, 3) := by decide +kernel
theorem dX11_bridges_4 : decode cX11_bridges 4 = .ok (.getfield 338, 3) := by decide +kernel
theorem dX11_bridges_7 : decode cX11_bridges 7 = .ok (.invokevirtual 356, 3) := by decide +kernel
theorem dX11_bridges_10 : decode cX11_bridges 10 = .ok (.ireturn, 1) := by decide +kernel
theorem dX11_odds_0 : decode cX11_odds 0 = .ok (.iload_n 1, 1) := by decide +kernel
theorem dX11_odds_1 : decode cX11_odds 1 = .ok (.iconst 0, 1) := by decide +kernel
theorem dX11_odds_2 : decode cX11_odds 2 = .ok (.iconst 5, 1) := by decide +kernel
theorem dX11_odds_3 : decode cX11_odds 3 = .ok (.invokestatic 76, 3) := by decide +kernel
theorem dX11_odds_6 : decode cX11_odds 6 = .ok (.ifCond .eq 13, 3) := by decide +kernel
theorem dX11_odds_9 : decode cX11_odds 9 = .ok (.iload_n 2, 1) := by decide +kernel
theorem dX11_odds_10 : decode cX11_odds 10 = .ok (.iconst 0, 1) := by decide +kernel
theorem dX11_odds_11 : decode cX11_odds 11 = .ok (.bipush 10, 2) := by decide +kernel
theorem dX11_odds_13 : decode cX11_odds 13 = .ok (.invokestatic 76, 3) := by decide +kernel
theorem dX11_odds_16 : decode cX11_odds 16 = .ok (.ifCond .ne 5, 3) := by decide +kernel
theorem dX11_odds_19 : decode cX11_odds 19 = .ok (.iconst 0, 1) := by decide +kernel
theorem dX11_odds_20 : decode cX11_odds 20 = .ok (.ireturn, 1) := by decide +kernel
theorem dX11_odds_21 : decode cX11_odds 21 = .ok (.aload_n 0, 1) := by decide +kernel
theorem dX11_odds_22 : decode cX11_odds 22 = .ok (.getfield 10, 3) := by decide +kernel
theorem dX11_odds_25 : decode cX11_odds 25 = .ok (.getfield 359, 3) := by decide +kernel
theorem dX11_odds_28 : decode cX11_odds 28 = .ok (.getfield 363, 3) := by decide +kernel
theorem dX11_odds_31 : decode cX11_odds 31 = .ok (.iload_n 1, 1) := by decide +kernel
theorem dX11_odds_32 : decode cX11_odds 32 = .ok (.iload_n 2, 1) := by decide +kernel
theorem dX11_odds_33 : decode cX11_odds 33 = .ok (.iastore, 1) := by decide +kernel
theorem dX11_odds_34 : decode cX11_odds 34 = .ok (.iconst 1, 1) := by decide +kernel
theorem dX11_odds_35 : decode cX11_odds 35 = .ok (.ireturn, 1) := by decide +kernel
theorem dX11_leave_0 : decode cX11_leave 0 = .ok (.iload_n 1, 1) := by decide +kernel
theorem dX11_leave_1 : decode cX11_leave 1 = .ok (.iconst 0, 1) := by decide +kernel
theorem dX11_leave_2 : decode cX11_leave 2 = .ok (.bipush 6, 2) := by decide +kernel
theorem dX11_leave_4 : decode cX11_leave 4 = .ok (.invokestatic 76, 3) := by decide +kernel
theorem dX11_leave_7 : decode cX11_leave 7 = .ok (.ifCond .eq 16, 3) := by decide +kernel
theorem dX11_leave_10 : decode cX11_leave 10 = .ok (.aload_n 0, 1) := by decide +kernel
theorem dX11_leave_11 : decode cX11_leave 11 = .ok (.getfield 10, 3) := by decide +kernel
theorem dX11_leave_14 : decode cX11_leave 14 = .ok (.getfield 359, 3) := by decide +kernel
theorem dX11_leave_17 : decode cX11_leave 17 = .ok (.invokevirtual 368, 3) := by decide +kernel
theorem dX11_leave_20 : decode cX11_leave 20 = .ok (.ifCond .ne 7, 3) := by decide +kernel
theorem dX11_leave_23 : decode cX11_leave 23 = .ok (.ldc2_w 371, 3) := by decide +kernel
theorem dX11_leave_26 : decode cX11_leave 26 = .ok (.lreturn, 1) := by decide +kernel
theorem dX11_leave_27 : decode cX11_leave 27 = .ok (.iload_n 1, 1) := by decide +kernel
theorem dX11_leave_28 : decode cX11_leave 28 = .ok (.invokestatic 373, 3) := by decide +kernel
theorem dX11_leave_31 : decode cX11_leave 31 = .ok (.lstore_n 3, 1) := by decide +kernel
theorem dX11_leave_32 : decode cX11_leave 32 = .ok (.aload_n 0, 1) := by decide +kernel
theorem dX11_leave_33 : decode cX11_leave 33 = .ok (.getfield 10, 3) := by decide +kernel
theorem dX11_leave_36 : decode cX11_leave 36 = .ok (.getfield 359, 3) := by decide +kernel
theorem dX11_leave_39 : decode cX11_leave 39 = .ok (.iload_n 1, 1) := by decide +kernel
theorem dX11_leave_40 : decode cX11_leave 40 = .ok (.invokevirtual 377, 3) := by decide +kernel
theorem dX11_leave_43 : decode cX11_leave 43 = .ok (.lstore 5, 2) := by decide +kernel
theorem dX11_leave_45 : decode cX11_leave 45 = .ok (.lload_n 3, 1) := by decide +kernel
theorem dX11_leave_46 : decode cX11_leave 46 = .ok (.lload 5, 2) := by decide +kernel
theorem dX11_leave_48 : decode cX11_leave 48 = .ok (.invokestatic 380, 3) := by decide +kernel
theorem dX11_leave_51 : decode cX11_leave 51 = .ok (.lstore 7, 2) := by decide +kernel
theorem dX11_leave_53 : decode cX11_leave 53 = .ok (.lload 7, 2) := by decide +kernel
theorem dX11_leave_55 : decode cX11_leave 55 = .ok (.lconst 0, 1) := by decide +kernel
theorem dX11_leave_56 : decode cX11_leave 56 = .ok (.lcmp, 1) := by decide +kernel
theorem dX11_leave_57 : decode cX11_leave 57 = .ok (.ifCond .ne 7, 3) := by decide +kernel
theorem dX11_leave_60 : decode cX11_leave 60 = .ok (.ldc2_w 371, 3) := by decide +kernel
theorem dX11_leave_63 : decode cX11_leave 63 = .ok (.lreturn, 1) := by decide +kernel
theorem dX11_leave_64 : decode cX11_leave 64 = .ok (.iload_n 2, 1) := by decide +kernel
theorem dX11_leave_65 : decode cX11_leave 65 = .ok (.ifCond .eq 7, 3) := by decide +kernel
theorem dX11_leave_68 : decode cX11_leave 68 = .ok (.lload_n 3, 1) := by decide +kernel
theorem dX11_leave_69 : decode cX11_leave 69 = .ok (.goto 5, 3) := by decide +kernel
theorem dX11_leave_72 : decode cX11_leave 72 = .ok (.lload 5, 2) := by decide +kernel
theorem dX11_leave_74 : decode cX11_leave 74 = .ok (.lload 7, 2) := by decide +kernel
theorem dX11_leave_76 : decode cX11_leave 76 = .ok (.ldiv, 1) := by decide +kernel
theorem dX11_leave_77 : decode cX11_leave 77 = .ok (.lreturn, 1) := by decide +kernel
theorem dX11_takes_0 : decode cX11_takes 0 = .ok (.iload_n 1, 1) := by decide +kernel
theorem dX11_takes_1 : decode cX11_takes 1 = .ok (.iconst 0, 1) := by decide +kernel
theorem dX11_takes_2 : decode cX11_takes 2 = .ok (.bipush 6, 2) := by decide +kernel
theorem dX11_takes_4 : decode cX11_takes 4 = .ok (.invokestatic 76, 3) := by decide +kernel
theorem dX11_takes_7 : decode cX11_takes 7 = .ok (.ifCond .eq 25, 3) := by decide +kernel
theorem dX11_takes_10 : decode cX11_takes 10 = .ok (.iload_n 2, 1) := by decide +kernel
theorem dX11_takes_11 : decode cX11_takes 11 = .ok (.iconst 0, 1) := by decide +kernel
theorem dX11_takes_12 : decode cX11_takes 12 = .ok (.iconst 5, 1) := by decide +kernel
theorem dX11_takes_13 : decode cX11_takes 13 = .ok (.invokestatic 76, 3) := by decide +kernel
theorem dX11_takes_16 : decode cX11_takes 16 = .ok (.ifCond .eq 16, 3) := by decide +kernel
theorem dX11_takes_19 : decode cX11_takes 19 = .ok (.aload_n 0, 1) := by decide +kernel
theorem dX11_takes_20 : decode cX11_takes 20 = .ok (.getfield 10, 3) := by decide +kernel
theorem dX11_takes_23 : decode cX11_takes 23 = .ok (.getfield 359, 3) := by decide +kernel
theorem dX11_takes_26 : decode cX11_takes 26 = .ok (.invokevirtual 368, 3) := by decide +kernel
theorem dX11_takes_29 : decode cX11_takes 29 = .ok (.ifCond .ne 5, 3) := by decide +kernel
theorem dX11_takes_32 : decode cX11_takes 32 = .ok (.iconst (-1), 1) := by decide +kernel
theorem dX11_takes_33 : decode cX11_takes 33 = .ok (.ireturn, 1) := by decide +kernel
theorem dX11_takes_34 : decode cX11_takes 34 = .ok (.ldc2_w 384, 3) := by decide +kernel
theorem dX11_takes_37 : decode cX11_takes 37 = .ok (.iload_n 2, 1) := by decide +kernel
theorem dX11_takes_38 : decode cX11_takes 38 = .ok (.i2l, 1) := by decide +kernel
theorem dX11_takes_39 : decode cX11_takes 39 = .ok (.lmul, 1) := by decide +kernel
theorem dX11_takes_40 : decode cX11_takes 40 = .ok (.iload_n 1, 1) := by decide +kernel
theorem dX11_takes_41 : decode cX11_takes 41 = .ok (.invokestatic 373, 3) := by decide +kernel
theorem dX11_takes_44 : decode cX11_takes 44 = .ok (.lmul, 1) := by decide +kernel
theorem dX11_takes_45 : decode cX11_takes 45 = .ok (.aload_n 0, 1) := by decide +kernel
theorem dX11_takes_46 : decode cX11_takes 46 = .ok (.getfield 10, 3) := by decide +kernel
theorem dX11_takes_49 : decode cX11_takes 49 = .ok (.getfield 359, 3) := by decide +kernel
theorem dX11_takes_52 : decode cX11_takes 52 = .ok (.iload_n 1, 1) := by decide +kernel
theorem dX11_takes_53 : decode cX11_takes 53 = .ok (.invokevirtual 377, 3) := by decide +kernel
theorem dX11_takes_56 : decode cX11_takes 56 = .ok (.lcmp, 1) := by decide +kernel
theorem dX11_takes_57 : decode cX11_takes 57 = .ok (.ifCond .lt 7, 3) := by decide +kernel
theorem dX11_takes_60 : decode cX11_takes 60 = .ok (.iconst 1, 1) := by decide +kernel
theorem dX11_takes_61 : decode cX11_takes 61 = .ok (.goto 4, 3) := by decide +kernel
theorem dX11_takes_64 : decode cX11_takes 64 = .ok (.iconst 0, 1) := by decide +kernel
theorem dX11_takes_65 : decode cX11_takes 65 = .ok (.ireturn, 1) := by decide +kernel
theorem dX11_ash_0 : decode cX11_ash 0 = .ok (.iload_n 1, 1) := by decide +kernel
theorem dX11_ash_1 : decode cX11_ash 1 = .ok (.iconst 0, 1) := by decide +kernel
theorem dX11_ash_2 : decode cX11_ash 2 = .ok (.bipush 108, 2) := by decide +kernel
theorem dX11_ash_4 : decode cX11_ash 4 = .ok (.invokestatic 76, 3) := by decide +kernel
theorem dX11_ash_7 : decode cX11_ash 7 = .ok (.ifCond .eq 13, 3) := by decide +kernel
theorem dX11_ash_10 : decode cX11_ash 10 = .ok (.iload_n 2, 1) := by decide +kernel
theorem dX11_ash_11 : decode cX11_ash 11 = .ok (.iconst 0, 1) := by decide +kernel
theorem dX11_ash_12 : decode cX11_ash 12 = .ok (.bipush 12, 2) := by decide +kernel
theorem dX11_ash_14 : decode cX11_ash 14 = .ok (.invokestatic 76, 3) := by decide +kernel
theorem dX11_ash_17 : decode cX11_ash 17 = .ok (.ifCond .ne 5, 3) := by decide +kernel
theorem dX11_ash_20 : decode cX11_ash 20 = .ok (.iconst (-1), 1) := by decide +kernel
theorem dX11_ash_21 : decode cX11_ash 21 = .ok (.ireturn, 1) := by decide +kernel
theorem dX11_ash_22 : decode cX11_ash 22 = .ok (.aload_n 0, 1) := by decide +kernel
theorem dX11_ash_23 : decode cX11_ash 23 = .ok (.getfield 69, 3) := by decide +kernel
theorem dX11_ash_26 : decode cX11_ash 26 = .ok (.aload_n 0, 1) := by decide +kernel
theorem dX11_ash_27 : decode cX11_ash 27 = .ok (.getfield 19, 3) := by decide +kernel
theorem dX11_ash_30 : decode cX11_ash 30 = .ok (.iload_n 1, 1) := by decide +kernel
theorem dX11_ash_31 : decode cX11_ash 31 = .ok (.iload_n 2, 1) := by decide +kernel
theorem dX11_ash_32 : decode cX11_ash 32 = .ok (.invokevirtual 386, 3) := by decide +kernel
theorem dX11_ash_35 : decode cX11_ash 35 = .ok (.aload_n 0, 1) := by decide +kernel
theorem dX11_ash_36 : decode cX11_ash 36 = .ok (.getfield 69, 3) := by decide +kernel
theorem dX11_ash_39 : decode cX11_ash 39 = .ok (.getfield 389, 3) := by decide +kernel
theorem dX11_ash_42 : decode cX11_ash 42 = .ok (.ireturn, 1) := by decide +kernel
theorem dX11_burnt_0 : decode cX11_burnt 0 = .ok (.aload_n 0, 1) := by decide +kernel
theorem dX11_burnt_1 : decode cX11_burnt 1 = .ok (.iload_n 1, 1) := by decide +kernel
theorem dX11_burnt_2 : decode cX11_burnt 2 = .ok (.iload_n 2, 1) := by decide +kernel
theorem dX11_burnt_3 : decode cX11_burnt 3 = .ok (.invokevirtual 392, 3) := by decide +kernel
theorem dX11_burnt_6 : decode cX11_burnt 6 = .ok (.iconst (-1), 1) := by decide +kernel
theorem dX11_burnt_7 : decode cX11_burnt 7 = .ok (.if_icmp .ne 5, 3) := by decide +kernel
theorem dX11_burnt_10 : decode cX11_burnt 10 = .ok (.iconst (-1), 1) := by decide +kernel
theorem dX11_burnt_11 : decode cX11_burnt 11 = .ok (.ireturn, 1) := by decide +kernel
theorem dX11_burnt_12 : decode cX11_burnt 12 = .ok (.aload_n 0, 1) := by decide +kernel
theorem dX11_burnt_13 : decode cX11_burnt 13 = .ok (.getfield 69, 3) := by decide +kernel
theorem dX11_burnt_16 : decode cX11_burnt 16 = .ok (.getfield 389, 3) := by decide +kernel
theorem dX11_burnt_19 : decode cX11_burnt 19 = .ok (.ifCond .ne 5, 3) := by decide +kernel
theorem dX11_burnt_22 : decode cX11_burnt 22 = .ok (.iconst 0, 1) := by decide +kernel
theorem dX11_burnt_23 : decode cX11_burnt 23 = .ok (.ireturn, 1) := by decide +kernel
theorem dX11_burnt_24 : decode cX11_burnt 24 = .ok (.iload_n 3, 1) := by decide +kernel
theorem dX11_burnt_25 : decode cX11_burnt 25 = .ok (.ifCond .eq 13, 3) := by decide +kernel
theorem dX11_burnt_28 : decode cX11_burnt 28 = .ok (.aload_n 0, 1) := by decide +kernel
theorem dX11_burnt_29 : decode cX11_burnt 29 = .ok (.getfield 69, 3) := by decide +kernel
theorem dX11_burnt_32 : decode cX11_burnt 32 = .ok (.getfield 395, 3) := by decide +kernel
theorem dX11_burnt_35 : decode cX11_burnt 35 = .ok (.goto 20, 3) := by decide +kernel
theorem dX11_burnt_38 : decode cX11_burnt 38 = .ok (.aload_n 0, 1) := by decide +kernel
theorem dX11_burnt_39 : decode cX11_burnt 39 = .ok (.getfield 69, 3) := by decide +kernel
theorem dX11_burnt_42 : decode cX11_burnt 42 = .ok (.getfield 398, 3) := by decide +kernel
theorem dX11_burnt_45 : decode cX11_burnt 45 = .ok (.aload_n 0, 1) := by decide +kernel
theorem dX11_burnt_46 : decode cX11_burnt 46 = .ok (.getfield 69, 3) := by decide +kernel
theorem dX11_burnt_49 : decode cX11_burnt 49 = .ok (.getfield 401, 3) := by decide +kernel
theorem dX11_burnt_52 : decode cX11_burnt 52 = .ok (.iconst (-1), 1) := by decide +kernel
theorem dX11_burnt_53 : decode cX11_burnt 53 = .ok (.ixor, 1) := by decide +kernel
theorem dX11_burnt_54 : decode cX11_burnt 54 = .ok (.iand, 1) := by decide +kernel
theorem dX11_burnt_55 : decode cX11_burnt 55 = .ok (.ireturn, 1) := by decide +kernel
theorem dX11_said_0 : decode cX11_said 0 = .ok (.iload_n 1, 1) := by decide +kernel
theorem dX11_said_1 : decode cX11_said 1 = .ok (.iconst (-1), 1) := by decide +kernel
theorem dX11_said_2 : decode cX11_said 2 = .ok (.if_icmp .ne 13, 3) := by decide +kernel
theorem dX11_said_5 : decode cX11_said 5 = .ok (.aload_n 0, 1) := by decide +kernel
theorem dX11_said_6 : decode cX11_said 6 = .ok (.getfield 10, 3) := by decide +kernel
theorem dX11_said_9 : decode cX11_said 9 = .ok (.iconst 0, 1) := by decide +kernel
theorem dX11_said_10 : decode cX11_said 10 = .ok (.putfield 404, 3) := by decide +kernel
theorem dX11_said_13 : decode cX11_said 13 = .ok (.iconst 0, 1) := by decide +kernel
theorem dX11_said_14 : decode cX11_said 14 = .ok (.ireturn, 1) := by decide +kernel
theorem dX11_said_15 : decode cX11_said 15 = .ok (.aload_n 0, 1) := by decide +kernel
theorem dX11_said_16 : decode cX11_said 16 = .ok (.getfield 10, 3) := by decide +kernel
theorem dX11_said_19 : decode cX11_said 19 = .ok (.iload_n 1, 1) := by decide +kernel
theorem dX11_said_20 : decode cX11_said 20 = .ok (.invokevirtual 111, 3) := by decide +kernel
theorem dX11_said_23 : decode cX11_said 23 = .ok (.ifCond .eq 25, 3) := by decide +kernel
theorem dX11_said_26 : decode cX11_said 26 = .ok (.iload_n 2, 1) := by decide +kernel
theorem dX11_said_27 : decode cX11_said 27 = .ok (.iconst 0, 1) := by decide +kernel
theorem dX11_said_28 : decode cX11_said 28 = .ok (.bipush 10, 2) := by decide +kernel
theorem dX11_said_30 : decode cX11_said 30 = .ok (.invokestatic 76, 3) := by decide +kernel
theorem dX11_said_33 : decode cX11_said 33 = .ok (.ifCond .eq 15, 3) := by decide +kernel
theorem dX11_said_36 : decode cX11_said 36 = .ok (.aload_n 0, 1) := by decide +kernel
theorem dX11_said_37 : decode cX11_said 37 = .ok (.getfield 10, 3) := by decide +kernel
theorem dX11_said_40 : decode cX11_said 40 = .ok (.getfield 404, 3) := by decide +kernel
theorem dX11_said_43 : decode cX11_said 43 = .ok (.bipush 8, 2) := by decide +kernel
theorem dX11_said_45 : decode cX11_said 45 = .ok (.if_icmp .lt 6, 3) := by decide +kernel
theorem dX11_said_48 : decode cX11_said 48 = .ok (.bipush (-2), 2) := by decide +kernel
theorem dX11_said_50 : decode cX11_said 50 = .ok (.ireturn, 1) := by decide +kernel
theorem dX11_said_51 : decode cX11_said 51 = .ok (.aload_n 0, 1) := by decide +kernel
theorem dX11_said_52 : decode cX11_said 52 = .ok (.getfield 10, 3) := by decide +kernel
theorem dX11_said_55 : decode cX11_said 55 = .ok (.getfield 407, 3) := by decide +kernel
theorem dX11_said_58 : decode cX11_said 58 = .ok (.aload_n 0, 1) := by decide +kernel
theorem dX11_said_59 : decode cX11_said 59 = .ok (.getfield 10, 3) := by decide +kernel
theorem dX11_said_62 : decode cX11_said 62 = .ok (.getfield 404, 3) := by decide +kernel
theorem dX11_said_65 : decode cX11_said 65 = .ok (.iload_n 1, 1) := by decide +kernel
theorem dX11_said_66 : decode cX11_said 66 = .ok (.iastore, 1) := by decide +kernel
theorem dX11_said_67 : decode cX11_said 67 = .ok (.aload_n 0, 1) := by decide +kernel
theorem dX11_said_68 : decode cX11_said 68 = .ok (.getfield 10, 3) := by decide +kernel
theorem dX11_said_71 : decode cX11_said 71 = .ok (.getfield 410, 3) := by decide +kernel
theorem dX11_said_74 : decode cX11_said 74 = .ok (.aload_n 0, 1) := by decide +kernel
theorem dX11_said_75 : decode cX11_said 75 = .ok (.getfield 10, 3) := by decide +kernel
theorem dX11_said_78 : decode cX11_said 78 = .ok (.getfield 404, 3) := by decide +kernel
theorem dX11_said_81 : decode cX11_said 81 = .ok (.iload_n 2, 1) := by decide +kernel
theorem dX11_said_82 : decode cX11_said 82 = .ok (.iastore, 1) := by decide +kernel
theorem dX11_said_83 : decode cX11_said 83 = .ok (.aload_n 0, 1) := by decide +kernel
theorem dX11_said_84 : decode cX11_said 84 = .ok (.getfield 10, 3) := by decide +kernel
theorem dX11_said_87 : decode cX11_said 87 = .ok (.dup, 1) := by decide +kernel
theorem dX11_said_88 : decode cX11_said 88 = .ok (.getfield 404, 3) := by decide +kernel
theorem dX11_said_91 : decode cX11_said 91 = .ok (.iconst 1, 1) := by decide +kernel
theorem dX11_said_92 : decode cX11_said 92 = .ok (.iadd, 1) := by decide +kernel
theorem dX11_said_93 : decode cX11_said 93 = .ok (.putfield 404, 3) := by decide +kernel
theorem dX11_said_96 : decode cX11_said 96 = .ok (.aload_n 0, 1) := by decide +kernel
theorem dX11_said_97 : decode cX11_said 97 = .ok (.getfield 10, 3) := by decide +kernel
theorem dX11_said_100 : decode cX11_said 100 = .ok (.getfield 404, 3) := by decide +kernel
theorem dX11_said_103 : decode cX11_said 103 = .ok (.ireturn, 1) := by decide +kernel
theorem dX11_whose_0 : decode cX11_whose 0 = .ok (.iconst 0, 1) := by decide +kernel
theorem dX11_whose_1 : decode cX11_whose 1 = .ok (.istore_n 1, 1) := by decide +kernel
theorem dX11_whose_2 : decode cX11_whose 2 = .ok (.iconst 0, 1) := by decide +kernel
theorem dX11_whose_3 : decode cX11_whose 3 = .ok (.istore_n 2, 1) := by decide +kernel
theorem dX11_whose_4 : decode cX11_whose 4 = .ok (.iload_n 2, 1) := by decide +kernel
theorem dX11_whose_5 : decode cX11_whose 5 = .ok (.aload_n 0, 1) := by decide +kernel
theorem dX11_whose_6 : decode cX11_whose 6 = .ok (.getfield 10, 3) := by decide +kernel
theorem dX11_whose_9 : decode cX11_whose 9 = .ok (.getfield 131, 3) := by decide +kernel
theorem dX11_whose_12 : decode cX11_whose 12 = .ok (.if_icmp .ge 30, 3) := by decide +kernel
theorem dX11_whose_15 : decode cX11_whose 15 = .ok (.aload_n 0, 1) := by decide +kernel
theorem dX11_whose_16 : decode cX11_whose 16 = .ok (.aload_n 0, 1) := by decide +kernel
theorem dX11_whose_17 : decode cX11_whose 17 = .ok (.getfield 10, 3) := by decide +kernel
theorem dX11_whose_20 : decode cX11_whose 20 = .ok (.iload_n 2, 1) := by decide +kernel
theorem dX11_whose_21 : decode cX11_whose 21 = .ok (.invokevirtual 200, 3) := by decide +kernel
theorem dX11_whose_24 : decode cX11_whose 24 = .ok (.invokevirtual 413, 3) := by decide +kernel
theorem dX11_whose_27 : decode cX11_whose 27 = .ok (.ifCond .eq 9, 3) := by decide +kernel
theorem dX11_whose_30 : decode cX11_whose 30 = .ok (.iload_n 1, 1) := by decide +kernel
theorem dX11_whose_31 : decode cX11_whose 31 = .ok (.iconst 1, 1) := by decide +kernel
theorem dX11_whose_32 : decode cX11_whose 32 = .ok (.iload_n 2, 1) := by decide +kernel
theorem dX11_whose_33 : decode cX11_whose 33 = .ok (.ishl, 1) := by decide +kernel
theorem dX11_whose_34 : decode cX11_whose 34 = .ok (.ior, 1) := by decide +kernel
theorem dX11_whose_35 : decode cX11_whose 35 = .ok (.istore_n 1, 1) := by decide +kernel
theorem dX11_whose_36 : decode cX11_whose 36 = .ok (.iinc 2 1, 3) := by decide +kernel
theorem dX11_whose_39 : decode cX11_whose 39 = .ok (.goto (-35), 3) := by decide +kernel
theorem dX11_whose_42 : decode cX11_whose 42 = .ok (.iload_n 1, 1) := by decide +kernel
theorem dX11_whose_43 : decode cX11_whose 43 = .ok (.ireturn, 1) := by decide +kernel
theorem dX11_saysAll_0 : decode cX11_saysAll 0 = .ok (.iconst 0, 1) := by decide +kernel
theorem dX11_saysAll_1 : decode cX11_saysAll 1 = .ok (.istore_n 2, 1) := by decide +kernel
theorem dX11_saysAll_2 : decode cX11_saysAll 2 = .ok (.iload_n 2, 1) := by decide +kernel
theorem dX11_saysAll_3 : decode cX11_saysAll 3 = .ok (.aload_n 0, 1) := by decide +kernel
theorem dX11_saysAll_4 : decode cX11_saysAll 4 = .ok (.getfield 10, 3) := by decide +kernel
theorem dX11_saysAll_7 : decode cX11_saysAll 7 = .ok (.getfield 404, 3) := by decide +kernel
theorem dX11_saysAll_10 : decode cX11_saysAll 10 = .ok (.if_icmp .ge 44, 3) := by decide +kernel
theorem dX11_saysAll_13 : decode cX11_saysAll 13 = .ok (.aload_n 0, 1) := by decide +kernel
theorem dX11_saysAll_14 : decode cX11_saysAll 14 = .ok (.getfield 60, 3) := by decide +kernel
theorem dX11_saysAll_17 : decode cX11_saysAll 17 = .ok (.aload_n 1, 1) := by decide +kernel
theorem dX11_saysAll_18 : decode cX11_saysAll 18 = .ok (.aload_n 0, 1) := by decide +kernel
theorem dX11_saysAll_19 : decode cX11_saysAll 19 = .ok (.getfield 19, 3) := by decide +kernel
theorem dX11_saysAll_22 : decode cX11_saysAll 22 = .ok (.aload_n 0, 1) := by decide +kernel
theorem dX11_saysAll_23 : decode cX11_saysAll 23 = .ok (.getfield 10, 3) := by decide +kernel
theorem dX11_saysAll_26 : decode cX11_saysAll 26 = .ok (.getfield 407, 3) := by decide +kernel
theorem dX11_saysAll_29 : decode cX11_saysAll 29 = .ok (.iload_n 2, 1) := by decide +kernel
theorem dX11_saysAll_30 : decode cX11_saysAll 30 = .ok (.iaload, 1) := by decide +kernel
theorem dX11_saysAll_31 : decode cX11_saysAll 31 = .ok (.invokevirtual 267, 3) := by decide +kernel
theorem dX11_saysAll_34 : decode cX11_saysAll 34 = .ok (.aload_n 0, 1) := by decide +kernel
theorem dX11_saysAll_35 : decode cX11_saysAll 35 = .ok (.getfield 10, 3) := by decide +kernel
theorem dX11_saysAll_38 : decode cX11_saysAll 38 = .ok (.getfield 410, 3) := by decide +kernel
theorem dX11_saysAll_41 : decode cX11_saysAll 41 = .ok (.iload_n 2, 1) := by decide +kernel
theorem dX11_saysAll_42 : decode cX11_saysAll 42 = .ok (.iaload, 1) := by decide +kernel
theorem dX11_saysAll_43 : decode cX11_saysAll 43 = .ok (.if_icmp .eq 5, 3) := by decide +kernel
theorem dX11_saysAll_46 : decode cX11_saysAll 46 = .ok (.iconst 0, 1) := by decide +kernel
theorem dX11_saysAll_47 : decode cX11_saysAll 47 = .ok (.ireturn, 1) := by decide +kernel
theorem dX11_saysAll_48 : decode cX11_saysAll 48 = .ok (.iinc 2 1, 3) := by decide +kernel
theorem dX11_saysAll_51 : decode cX11_saysAll 51 = .ok (.goto (-49), 3) := by decide +kernel
theorem dX11_saysAll_54 : decode cX11_saysAll 54 = .ok (.iconst 1, 1) := by decide +kernel
theorem dX11_saysAll_55 : decode cX11_saysAll 55 = .ok (.ireturn, 1) := by decide +kernel
theorem dX11_dearest_0 : decode cX11_dearest 0 = .ok (.iconst (-1), 1) := by decide +kernel
theorem dX11_dearest_1 : decode cX11_dearest 1 = .ok (.istore_n 1, 1) := by decide +kernel
theorem dX11_dearest_2 : decode cX11_dearest 2 = .ok (.iconst 0, 1) := by decide +kernel
theorem dX11_dearest_3 : decode cX11_dearest 3 = .ok (.istore_n 2, 1) := by decide +kernel
theorem dX11_dearest_4 : decode cX11_dearest 4 = .ok (.iconst 0, 1) := by decide +kernel
theorem dX11_dearest_5 : decode cX11_dearest 5 = .ok (.istore_n 3, 1) := by decide +kernel
theorem dX11_dearest_6 : decode cX11_dearest 6 = .ok (.iload_n 3, 1) := by decide +kernel
theorem dX11_dearest_7 : decode cX11_dearest 7 = .ok (.aload_n 0, 1) := by decide +kernel
theorem dX11_dearest_8 : decode cX11_dearest 8 = .ok (.getfield 10, 3) := by decide +kernel
theorem dX11_dearest_11 : decode cX11_dearest 11 = .ok (.getfield 80, 3) := by decide +kernel
theorem dX11_dearest_14 : decode cX11_dearest 14 = .ok (.if_icmp .ge 42, 3) := by decide +kernel
theorem dX11_dearest_17 : decode cX11_dearest 17 = .ok (.aload_n 0, 1) := by decide +kernel
theorem dX11_dearest_18 : decode cX11_dearest 18 = .ok (.getfield 60, 3) := by decide +kernel
theorem dX11_dearest_21 : decode cX11_dearest 21 = .ok (.aload_n 0, 1) := by decide +kernel
theorem dX11_dearest_22 : decode cX11_dearest 22 = .ok (.getfield 19, 3) := by decide +kernel
theorem dX11_dearest_25 : decode cX11_dearest 25 = .ok (.iload_n 3, 1) := by decide +kernel
theorem dX11_dearest_26 : decode cX11_dearest 26 = .ok (.invokevirtual 166, 3) := by decide +kernel
theorem dX11_dearest_29 : decode cX11_dearest 29 = .ok (.aload_n 0, 1) := by decide +kernel
theorem dX11_dearest_30 : decode cX11_dearest 30 = .ok (.getfield 60, 3) := by decide +kernel
theorem dX11_dearest_33 : decode cX11_dearest 33 = .ok (.getfield 173, 3) := by decide +kernel
theorem dX11_dearest_36 : decode cX11_dearest 36 = .ok (.iload_n 2, 1) := by decide +kernel
theorem dX11_dearest_37 : decode cX11_dearest 37 = .ok (.if_icmp .le 13, 3) := by decide +kernel
theorem dX11_dearest_40 : decode cX11_dearest 40 = .ok (.aload_n 0, 1) := by decide +kernel
theorem dX11_dearest_41 : decode cX11_dearest 41 = .ok (.getfield 60, 3) := by decide +kernel
theorem dX11_dearest_44 : decode cX11_dearest 44 = .ok (.getfield 173, 3) := by decide +kernel
theorem dX11_dearest_47 : decode cX11_dearest 47 = .ok (.istore_n 2, 1) := by decide +kernel
theorem dX11_dearest_48 : decode cX11_dearest 48 = .ok (.iload_n 3, 1) := by decide +kernel
theorem dX11_dearest_49 : decode cX11_dearest 49 = .ok (.istore_n 1, 1) := by decide +kernel
theorem dX11_dearest_50 : decode cX11_dearest 50 = .ok (.iinc 3 1, 3) := by decide +kernel
theorem dX11_dearest_53 : decode cX11_dearest 53 = .ok (.goto (-47), 3) := by decide +kernel
theorem dX11_dearest_56 : decode cX11_dearest 56 = .ok (.iload_n 1, 1) := by decide +kernel
theorem dX11_dearest_57 : decode cX11_dearest 57 = .ok (.ireturn, 1) := by decide +kernel
theorem dX11_left_0 : decode cX11_left 0 = .ok (.iload_n 1, 1) := by decide +kernel
theorem dX11_left_1 : decode cX11_left 1 = .ok (.iconst 0, 1) := by decide +kernel
theorem dX11_left_2 : decode cX11_left 2 = .ok (.iconst 5, 1) := by decide +kernel
theorem dX11_left_3 : decode cX11_left 3 = .ok (.invokestatic 76, 3) := by decide +kernel
theorem dX11_left_6 : decode cX11_left 6 = .ok (.ifCond .eq 21, 3) := by decide +kernel
theorem dX11_left_9 : decode cX11_left 9 = .ok (.aload_n 0, 1) := by decide +kernel
theorem dX11_left_10 : decode cX11_left 10 = .ok (.getfield 19, 3) := by decide +kernel
theorem dX11_left_13 : decode cX11_left 13 = .ok (.iload_n 1, 1) := by decide +kernel
theorem dX11_left_14 : decode cX11_left 14 = .ok (.aload_n 0, 1) := by decide +kernel
theorem dX11_left_15 : decode cX11_left 15 = .ok (.getfield 10, 3) := by decide +kernel
theorem dX11_left_18 : decode cX11_left 18 = .ok (.getfield 80, 3) := by decide +kernel
theorem dX11_left_21 : decode cX11_left 21 = .ok (.invokevirtual 285, 3) := by decide +kernel
theorem dX11_left_24 : decode cX11_left 24 = .ok (.goto 4, 3) := by decide +kernel
theorem dX11_left_27 : decode cX11_left 27 = .ok (.iconst (-1), 1) := by decide +kernel
theorem dX11_left_28 : decode cX11_left 28 = .ok (.ireturn, 1) := by decide +kernel
theorem dX11_ledger_0 : decode cX11_ledger 0 = .ok (.iload_n 1, 1) := by decide +kernel
theorem dX11_ledger_1 : decode cX11_ledger 1 = .ok (.iconst (-1), 1) := by decide +kernel
theorem dX11_ledger_2 : decode cX11_ledger 2 = .ok (.if_icmp .eq 17, 3) := by decide +kernel
theorem dX11_ledger_5 : decode cX11_ledger 5 = .ok (.aload_n 0, 1) := by decide +kernel
theorem dX11_ledger_6 : decode cX11_ledger 6 = .ok (.getfield 10, 3) := by decide +kernel
theorem dX11_ledger_9 : decode cX11_ledger 9 = .ok (.iload_n 1, 1) := by decide +kernel
theorem dX11_ledger_10 : decode cX11_ledger 10 = .ok (.invokevirtual 107, 3) := by decide +kernel
theorem dX11_ledger_13 : decode cX11_ledger 13 = .ok (.ifCond .ne 6, 3) := by decide +kernel
theorem dX11_ledger_16 : decode cX11_ledger 16 = .ok (.bipush (-2), 2) := by decide +kernel
theorem dX11_ledger_18 : decode cX11_ledger 18 = .ok (.ireturn, 1) := by decide +kernel
theorem dX11_ledger_19 : decode cX11_ledger 19 = .ok (.iconst 0, 1) := by decide +kernel
theorem dX11_ledger_20 : decode cX11_ledger 20 = .ok (.istore_n 2, 1) := by decide +kernel
theorem dX11_ledger_21 : decode cX11_ledger 21 = .ok (.iconst 0, 1) := by decide +kernel
theorem dX11_ledger_22 : decode cX11_ledger 22 = .ok (.istore_n 3, 1) := by decide +kernel
theorem dX11_ledger_23 : decode cX11_ledger 23 = .ok (.iload_n 3, 1) := by decide +kernel
theorem dX11_ledger_24 : decode cX11_ledger 24 = .ok (.aload_n 0, 1) := by decide +kernel
theorem dX11_ledger_25 : decode cX11_ledger 25 = .ok (.getfield 19, 3) := by decide +kernel
theorem dX11_ledger_28 : decode cX11_ledger 28 = .ok (.getfield 288, 3) := by decide +kernel
theorem dX11_ledger_31 : decode cX11_ledger 31 = .ok (.if_icmp .ge 47, 3) := by decide +kernel
theorem dX11_ledger_34 : decode cX11_ledger 34 = .ok (.iload_n 1, 1) := by decide +kernel
theorem dX11_ledger_35 : decode cX11_ledger 35 = .ok (.iconst (-1), 1) := by decide +kernel
theorem dX11_ledger_36 : decode cX11_ledger 36 = .ok (.if_icmp .eq 20, 3) := by decide +kernel
theorem dX11_ledger_39 : decode cX11_ledger 39 = .ok (.aload_n 0, 1) := by decide +kernel
theorem dX11_ledger_40 : decode cX11_ledger 40 = .ok (.getfield 19, 3) := by decide +kernel
theorem dX11_ledger_43 : decode cX11_ledger 43 = .ok (.getfield 291, 3) := by decide +kernel
theorem dX11_ledger_46 : decode cX11_ledger 46 = .ok (.iload_n 3, 1) := by decide +kernel
theorem dX11_ledger_47 : decode cX11_ledger 47 = .ok (.iconst 4, 1) := by decide +kernel
theorem dX11_ledger_48 : decode cX11_ledger 48 = .ok (.imul, 1) := by decide +kernel
theorem dX11_ledger_49 : decode cX11_ledger 49 = .ok (.iconst 2, 1) := by decide +kernel
theorem dX11_ledger_50 : decode cX11_ledger 50 = .ok (.iadd, 1) := by decide +kernel
theorem dX11_ledger_51 : decode cX11_ledger 51 = .ok (.iaload, 1) := by decide +kernel
theorem dX11_ledger_52 : decode cX11_ledger 52 = .ok (.iload_n 1, 1) := by decide +kernel
theorem dX11_ledger_53 : decode cX11_ledger 53 = .ok (.if_icmp .ne 19, 3) := by decide +kernel
theorem dX11_ledger_56 : decode cX11_ledger 56 = .ok (.iload_n 2, 1) := by decide +kernel
theorem dX11_ledger_57 : decode cX11_ledger 57 = .ok (.aload_n 0, 1) := by decide +kernel
theorem dX11_ledger_58 : decode cX11_ledger 58 = .ok (.getfield 19, 3) := by decide +kernel
theorem dX11_ledger_61 : decode cX11_ledger 61 = .ok (.getfield 291, 3) := by decide +kernel
theorem dX11_ledger_64 : decode cX11_ledger 64 = .ok (.iload_n 3, 1) := by decide +kernel
theorem dX11_ledger_65 : decode cX11_ledger 65 = .ok (.iconst 4, 1) := by decide +kernel
theorem dX11_ledger_66 : decode cX11_ledger 66 = .ok (.imul, 1) := by decide +kernel
theorem dX11_ledger_67 : decode cX11_ledger 67 = .ok (.iconst 3, 1) := by decide +kernel
theorem dX11_ledger_68 : decode cX11_ledger 68 = .ok (.iadd, 1) := by decide +kernel
theorem dX11_ledger_69 : decode cX11_ledger 69 = .ok (.iaload, 1) := by decide +kernel
theorem dX11_ledger_70 : decode cX11_ledger 70 = .ok (.iadd, 1) := by decide +kernel
theorem dX11_ledger_71 : decode cX11_ledger 71 = .ok (.istore_n 2, 1) := by decide +kernel
theorem dX11_ledger_72 : decode cX11_ledger 72 = .ok (.iinc 3 1, 3) := by decide +kernel
theorem dX11_ledger_75 : decode cX11_ledger 75 = .ok (.goto (-52), 3) := by decide +kernel
theorem dX11_ledger_78 : decode cX11_ledger 78 = .ok (.iload_n 2, 1) := by decide +kernel
theorem dX11_ledger_79 : decode cX11_ledger 79 = .ok (.ireturn, 1) := by decide +kernel
theorem dX11_richest_0 : decode cX11_richest 0 = .ok (.iconst (-1), 1) := by decide +kernel
theorem dX11_richest_1 : decode cX11_richest 1 = .ok (.istore_n 1, 1) := by decide +kernel
theorem dX11_richest_2 : decode cX11_richest 2 = .ok (.iconst (-1), 1) := by decide +kernel
theorem dX11_richest_3 : decode cX11_richest 3 = .ok (.istore_n 2, 1) := by decide +kernel
theorem dX11_richest_4 : decode cX11_richest 4 = .ok (.iconst 0, 1) := by decide +kernel
theorem dX11_richest_5 : decode cX11_richest 5 = .ok (.istore_n 3, 1) := by decide +kernel
theorem dX11_richest_6 : decode cX11_richest 6 = .ok (.iload_n 3, 1) := by decide +kernel
theorem dX11_richest_7 : decode cX11_richest 7 = .ok (.aload_n 0, 1) := by decide +kernel
theorem dX11_richest_8 : decode cX11_richest 8 = .ok (.getfield 10, 3) := by decide +kernel
theorem dX11_richest_11 : decode cX11_richest 11 = .ok (.getfield 98, 3) := by decide +kernel
theorem dX11_richest_14 : decode cX11_richest 14 = .ok (.if_icmp .ge 34, 3) := by decide +kernel
theorem dX11_richest_17 : decode cX11_richest 17 = .ok (.aload_n 0, 1) := by decide +kernel
theorem dX11_richest_18 : decode cX11_richest 18 = .ok (.getfield 19, 3) := by decide +kernel
theorem dX11_richest_21 : decode cX11_richest 21 = .ok (.getfield 101, 3) := by decide +kernel
theorem dX11_richest_24 : decode cX11_richest 24 = .ok (.iload_n 3, 1) := by decide +kernel
theorem dX11_richest_25 : decode cX11_richest 25 = .ok (.iaload, 1) := by decide +kernel
theorem dX11_richest_26 : decode cX11_richest 26 = .ok (.iload_n 2, 1) := by decide +kernel
theorem dX11_richest_27 : decode cX11_richest 27 = .ok (.if_icmp .le 15, 3) := by decide +kernel
theorem dX11_richest_30 : decode cX11_richest 30 = .ok (.aload_n 0, 1) := by decide +kernel
theorem dX11_richest_31 : decode cX11_richest 31 = .ok (.getfield 19, 3) := by decide +kernel
theorem dX11_richest_34 : decode cX11_richest 34 = .ok (.getfield 101, 3) := by decide +kernel
theorem dX11_richest_37 : decode cX11_richest 37 = .ok (.iload_n 3, 1) := by decide +kernel
theorem dX11_richest_38 : decode cX11_richest 38 = .ok (.iaload, 1) := by decide +kernel
theorem dX11_richest_39 : decode cX11_richest 39 = .ok (.istore_n 2, 1) := by decide +kernel
theorem dX11_richest_40 : decode cX11_richest 40 = .ok (.iload_n 3, 1) := by decide +kernel
theorem dX11_richest_41 : decode cX11_richest 41 = .ok (.istore_n 1, 1) := by decide +kernel
theorem dX11_richest_42 : decode cX11_richest 42 = .ok (.iinc 3 1, 3) := by decide +kernel
theorem dX11_richest_45 : decode cX11_richest 45 = .ok (.goto (-39), 3) := by decide +kernel
theorem dX11_richest_48 : decode cX11_richest 48 = .ok (.iload_n 1, 1) := by decide +kernel
theorem dX11_richest_49 : decode cX11_richest 49 = .ok (.ireturn, 1) := by decide +kernel
theorem dX11_image_0 : decode cX11_image 0 = .ok (.aload_n 0, 1) := by decide +kernel
theorem dX11_image_1 : decode cX11_image 1 = .ok (.getfield 30, 3) := by decide +kernel
theorem dX11_image_4 : decode cX11_image 4 = .ok (.aload_n 0, 1) := by decide +kernel
theorem dX11_image_5 : decode cX11_image 5 = .ok (.getfield 10, 3) := by decide +kernel
theorem dX11_image_8 : decode cX11_image 8 = .ok (.invokevirtual 417, 3) := by decide +kernel
theorem dX11_image_11 : decode cX11_image 11 = .ok (.aload_n 0, 1) := by decide +kernel
theorem dX11_image_12 : decode cX11_image 12 = .ok (.getfield 33, 3) := by decide +kernel
theorem dX11_image_15 : decode cX11_image 15 = .ok (.aload_n 0, 1) := by decide +kernel
theorem dX11_image_16 : decode cX11_image 16 = .ok (.getfield 19, 3) := by decide +kernel
theorem dX11_image_19 : decode cX11_image 19 = .ok (.invokevirtual 294, 3) := by decide +kernel
theorem dX11_image_22 : decode cX11_image 22 = .ok (.aload_n 0, 1) := by decide +kernel
theorem dX11_image_23 : decode cX11_image 23 = .ok (.getfield 36, 3) := by decide +kernel
theorem dX11_image_26 : decode cX11_image 26 = .ok (.aload_n 0, 1) := by decide +kernel
theorem dX11_image_27 : decode cX11_image 27 = .ok (.getfield 26, 3) := by decide +kernel
theorem dX11_image_30 : decode cX11_image 30 = .ok (.invokevirtual 419, 3) := by decide +kernel
theorem dX11_image_33 : decode cX11_image 33 = .ok (.aload_n 0, 1) := by decide +kernel
theorem dX11_image_34 : decode cX11_image 34 = .ok (.getfield 19, 3) := by decide +kernel
theorem dX11_image_37 : decode cX11_image 37 = .ok (.getfield 193, 3) := by decide +kernel
theorem dX11_image_40 : decode cX11_image 40 = .ok (.ireturn, 1) := by decide +kernel
theorem dX11_back_0 : decode cX11_back 0 = .ok (.aload_n 0, 1) := by decide +kernel
theorem dX11_back_1 : decode cX11_back 1 = .ok (.getfield 10, 3) := by decide +kernel
theorem dX11_back_4 : decode cX11_back 4 = .ok (.aload_n 0, 1) := by decide +kernel
theorem dX11_back_5 : decode cX11_back 5 = .ok (.getfield 30, 3) := by decide +kernel
theorem dX11_back_8 : decode cX11_back 8 = .ok (.invokevirtual 417, 3) := by decide +kernel
theorem dX11_back_11 : decode cX11_back 11 = .ok (.aload_n 0, 1) := by decide +kernel
theorem dX11_back_12 : decode cX11_back 12 = .ok (.getfield 19, 3) := by decide +kernel
theorem dX11_back_15 : decode cX11_back 15 = .ok (.aload_n 0, 1) := by decide +kernel
theorem dX11_back_16 : decode cX11_back 16 = .ok (.getfield 33, 3) := by decide +kernel
theorem dX11_back_19 : decode cX11_back 19 = .ok (.invokevirtual 294, 3) := by decide +kernel
theorem dX11_back_22 : decode cX11_back 22 = .ok (.aload_n 0, 1) := by decide +kernel
theorem dX11_back_23 : decode cX11_back 23 = .ok (.getfield 26, 3) := by decide +kernel
theorem dX11_back_26 : decode cX11_back 26 = .ok (.aload_n 0, 1) := by decide +kernel
theorem dX11_back_27 : decode cX11_back 27 = .ok (.getfield 36, 3) := by decide +kernel
theorem dX11_back_30 : decode cX11_back 30 = .ok (.invokevirtual 419, 3) := by decide +kernel
theorem dX11_back_33 : decode cX11_back 33 = .ok (.aload_n 0, 1) := by decide +kernel
theorem dX11_back_34 : decode cX11_back 34 = .ok (.getfield 19, 3) := by decide +kernel
theorem dX11_back_37 : decode cX11_back 37 = .ok (.getfield 193, 3) := by decide +kernel
theorem dX11_back_40 : decode cX11_back 40 = .ok (.ireturn, 1) := by decide +kernel
theorem dX11_about_0 : decode cX11_about 0 = .ok (.iload_n 1, 1) := by decide +kernel
theorem dX11_about_1 : decode cX11_about 1 = .ok (.tableswitch 111 0 7 #[47, 55, 63, 71, 79, 87, 95, 103], 47) := by decide +kernel
theorem dX11_about_48 : decode cX11_about 48 = .ok (.aload_n 0, 1) := by decide +kernel
theorem dX11_about_49 : decode cX11_about 49 = .ok (.getfield 10, 3) := by decide +kernel
theorem dX11_about_52 : decode cX11_about 52 = .ok (.getfield 80, 3) := by decide +kernel
theorem dX11_about_55 : decode cX11_about 55 = .ok (.ireturn, 1) := by decide +kernel
theorem dX11_about_56 : decode cX11_about 56 = .ok (.aload_n 0, 1) := by decide +kernel
theorem dX11_about_57 : decode cX11_about 57 = .ok (.getfield 10, 3) := by decide +kernel
theorem dX11_about_60 : decode cX11_about 60 = .ok (.getfield 98, 3) := by decide +kernel
theorem dX11_about_63 : decode cX11_about 63 = .ok (.ireturn, 1) := by decide +kernel
theorem dX11_about_64 : decode cX11_about 64 = .ok (.aload_n 0, 1) := by decide +kernel
theorem dX11_about_65 : decode cX11_about 65 = .ok (.getfield 10, 3) := by decide +kernel
theorem dX11_about_68 : decode cX11_about 68 = .ok (.getfield 131, 3) := by decide +kernel
theorem dX11_about_71 : decode cX11_about 71 = .ok (.ireturn, 1) := by decide +kernel
theorem dX11_about_72 : decode cX11_about 72 = .ok (.aload_n 0, 1) := by decide +kernel
theorem dX11_about_73 : decode cX11_about 73 = .ok (.getfield 10, 3) := by decide +kernel
theorem dX11_about_76 : decode cX11_about 76 = .ok (.getfield 155, 3) := by decide +kernel
theorem dX11_about_79 : decode cX11_about 79 = .ok (.ireturn, 1) := by decide +kernel
theorem dX11_about_80 : decode cX11_about 80 = .ok (.aload_n 0, 1) := by decide +kernel
theorem dX11_about_81 : decode cX11_about 81 = .ok (.getfield 26, 3) := by decide +kernel
theorem dX11_about_84 : decode cX11_about 84 = .ok (.getfield 223, 3) := by decide +kernel
theorem dX11_about_87 : decode cX11_about 87 = .ok (.ireturn, 1) := by decide +kernel
theorem dX11_about_88 : decode cX11_about 88 = .ok (.aload_n 0, 1) := by decide +kernel
theorem dX11_about_89 : decode cX11_about 89 = .ok (.getfield 10, 3) := by decide +kernel
theorem dX11_about_92 : decode cX11_about 92 = .ok (.getfield 314, 3) := by decide +kernel
theorem dX11_about_95 : decode cX11_about 95 = .ok (.ireturn, 1) := by decide +kernel
theorem dX11_about_96 : decode cX11_about 96 = .ok (.aload_n 0, 1) := by decide +kernel
theorem dX11_about_97 : decode cX11_about 97 = .ok (.getfield 10, 3) := by decide +kernel
theorem dX11_about_100 : decode cX11_about 100 = .ok (.getfield 404, 3) := by decide +kernel
theorem dX11_about_103 : decode cX11_about 103 = .ok (.ireturn, 1) := by decide +kernel
theorem dX11_about_104 : decode cX11_about 104 = .ok (.aload_n 0, 1) := by decide +kernel
theorem dX11_about_105 : decode cX11_about 105 = .ok (.getfield 42, 3) := by decide +kernel
theorem dX11_about_108 : decode cX11_about 108 = .ok (.getfield 124, 3) := by decide +kernel
theorem dX11_about_111 : decode cX11_about 111 = .ok (.ireturn, 1) := by decide +kernel
theorem dX11_about_112 : decode cX11_about 112 = .ok (.bipush (-2), 2) := by decide +kernel
theorem dX11_about_114 : decode cX11_about 114 = .ok (.ireturn, 1) := by decide +kernel
theorem dX11_within_0 : decode cX11_within 0 = .ok (.iload_n 0, 1) := by decide +kernel
theorem dX11_within_1 : decode cX11_within 1 = .ok (.iload_n 1, 1) := by decide +kernel
theorem dX11_within_2 : decode cX11_within 2 = .ok (.if_icmp .lt 12, 3) := by decide +kernel
theorem dX11_within_5 : decode cX11_within 5 = .ok (.iload_n 0, 1) := by decide +kernel
theorem dX11_within_6 : decode cX11_within 6 = .ok (.iload_n 2, 1) := by decide +kernel
theorem dX11_within_7 : decode cX11_within 7 = .ok (.if_icmp .gt 7, 3) := by decide +kernel
theorem dX11_within_10 : decode cX11_within 10 = .ok (.iconst 1, 1) := by decide +kernel
theorem dX11_within_11 : decode cX11_within 11 = .ok (.goto 4, 3) := by decide +kernel
theorem dX11_within_14 : decode cX11_within 14 = .ok (.iconst 0, 1) := by decide +kernel
theorem dX11_within_15 : decode cX11_within 15 = .ok (.ireturn, 1) := by decide +kernel
theorem dX11_unlikeFloors_0 : decode cX11_unlikeFloors 0 = .ok (.iload_n 0, 1) := by decide +kernel
theorem dX11_unlikeFloors_1 : decode cX11_unlikeFloors 1 = .ok (.iload_n 1, 1) := by decide +kernel
theorem dX11_unlikeFloors_2 : decode cX11_unlikeFloors 2 = .ok (.if_icmp .eq 25, 3) := by decide +kernel
theorem dX11_unlikeFloors_5 : decode cX11_unlikeFloors 5 = .ok (.iload_n 0, 1) := by decide +kernel
theorem dX11_unlikeFloors_6 : decode cX11_unlikeFloors 6 = .ok (.iconst 0, 1) := by decide +kernel
theorem dX11_unlikeFloors_7 : decode cX11_unlikeFloors 7 = .ok (.iconst 5, 1) := by decide +kernel
theorem dX11_unlikeFloors_8 : decode cX11_unlikeFloors 8 = .ok (.invokestatic 76, 3) := by decide +kernel
theorem dX11_unlikeFloors_11 : decode cX11_unlikeFloors 11 = .ok (.ifCond .eq 16, 3) := by decide +kernel
theorem dX11_unlikeFloors_14 : decode cX11_unlikeFloors 14 = .ok (.iload_n 1, 1) := by decide +kernel
theorem dX11_unlikeFloors_15 : decode cX11_unlikeFloors 15 = .ok (.iconst 0, 1) := by decide +kernel
theorem dX11_unlikeFloors_16 : decode cX11_unlikeFloors 16 = .ok (.iconst 5, 1) := by decide +kernel
theorem dX11_unlikeFloors_17 : decode cX11_unlikeFloors 17 = .ok (.invokestatic 76, 3) := by decide +kernel
theorem dX11_unlikeFloors_20 : decode cX11_unlikeFloors 20 = .ok (.ifCond .eq 7, 3) := by decide +kernel
theorem dX11_unlikeFloors_23 : decode cX11_unlikeFloors 23 = .ok (.iconst 1, 1) := by decide +kernel
theorem dX11_unlikeFloors_24 : decode cX11_unlikeFloors 24 = .ok (.goto 4, 3) := by decide +kernel
theorem dX11_unlikeFloors_27 : decode cX11_unlikeFloors 27 = .ok (.iconst 0, 1) := by decide +kernel
theorem dX11_unlikeFloors_28 : decode cX11_unlikeFloors 28 = .ok (.ireturn, 1) := by decide +kernel
theorem dX11_wantAt_0 : decode cX11_wantAt 0 = .ok (.iload_n 0, 1) := by decide +kernel
theorem dX11_wantAt_1 : decode cX11_wantAt 1 = .ok (.bipush 12, 2) := by decide +kernel
theorem dX11_wantAt_3 : decode cX11_wantAt 3 = .ok (.imul, 1) := by decide +kernel
theorem dX11_wantAt_4 : decode cX11_wantAt 4 = .ok (.iload_n 1, 1) := by decide +kernel
theorem dX11_wantAt_5 : decode cX11_wantAt 5 = .ok (.iadd, 1) := by decide +kernel
theorem dX11_wantAt_6 : decode cX11_wantAt 6 = .ok (.ireturn, 1) := by decide +kernel
theorem dX11_commonDivisor_0 : decode cX11_commonDivisor 0 = .ok (.lload_n 0, 1) := by decide +kernel
theorem dX11_commonDivisor_1 : decode cX11_commonDivisor 1 = .ok (.lstore 4, 2) := by decide +kernel
theorem dX11_commonDivisor_3 : decode cX11_commonDivisor 3 = .ok (.lload_n 2, 1) := by decide +kernel
theorem dX11_commonDivisor_4 : decode cX11_commonDivisor 4 = .ok (.lstore 6, 2) := by decide +kernel
theorem dX11_commonDivisor_6 : decode cX11_commonDivisor 6 = .ok (.iconst 0, 1) := by decide +kernel
theorem dX11_commonDivisor_7 : decode cX11_commonDivisor 7 = .ok (.istore 8, 2) := by decide +kernel
theorem dX11_commonDivisor_9 : decode cX11_commonDivisor 9 = .ok (.iload 8, 2) := by decide +kernel
theorem dX11_commonDivisor_11 : decode cX11_commonDivisor 11 = .ok (.bipush 100, 2) := by decide +kernel
theorem dX11_commonDivisor_13 : decode cX11_commonDivisor 13 = .ok (.if_icmp .ge 31, 3) := by decide +kernel
theorem dX11_commonDivisor_16 : decode cX11_commonDivisor 16 = .ok (.lload 6, 2) := by decide +kernel
theorem dX11_commonDivisor_18 : decode cX11_commonDivisor 18 = .ok (.lconst 0, 1) := by decide +kernel
theorem dX11_commonDivisor_19 : decode cX11_commonDivisor 19 = .ok (.lcmp, 1) := by decide +kernel
theorem dX11_commonDivisor_20 : decode cX11_commonDivisor 20 = .ok (.ifCond .eq 24, 3) := by decide +kernel
theorem dX11_commonDivisor_23 : decode cX11_commonDivisor 23 = .ok (.lload 4, 2) := by decide +kernel
theorem dX11_commonDivisor_25 : decode cX11_commonDivisor 25 = .ok (.lload 6, 2) := by decide +kernel
theorem dX11_commonDivisor_27 : decode cX11_commonDivisor 27 = .ok (.lrem, 1) := by decide +kernel
theorem dX11_commonDivisor_28 : decode cX11_commonDivisor 28 = .ok (.lstore 9, 2) := by decide +kernel
theorem dX11_commonDivisor_30 : decode cX11_commonDivisor 30 = .ok (.lload 6, 2) := by decide +kernel
theorem dX11_commonDivisor_32 : decode cX11_commonDivisor 32 = .ok (.lstore 4, 2) := by decide +kernel
theorem dX11_commonDivisor_34 : decode cX11_commonDivisor 34 = .ok (.lload 9, 2) := by decide +kernel
theorem dX11_commonDivisor_36 : decode cX11_commonDivisor 36 = .ok (.lstore 6, 2) := by decide +kernel
theorem dX11_commonDivisor_38 : decode cX11_commonDivisor 38 = .ok (.iinc 8 1, 3) := by decide +kernel
theorem dX11_commonDivisor_41 : decode cX11_commonDivisor 41 = .ok (.goto (-32), 3) := by decide +kernel
theorem dX11_commonDivisor_44 : decode cX11_commonDivisor 44 = .ok (.lload 4, 2) := by decide +kernel
theorem dX11_commonDivisor_46 : decode cX11_commonDivisor 46 = .ok (.lreturn, 1) := by decide +kernel
theorem dX12_init_0 : decode cX12_init 0 = .ok (.aload_n 0, 1) := by decide +kernel
theorem dX12_init_1 : decode cX12_init 1 = .ok (.invokespecial 1, 3) := by decide +kernel
theorem dX12_init_4 : decode cX12_init 4 = .ok (.aload_n 0, 1) := by decide +kernel
theorem dX12_init_5 : decode cX12_init 5 = .ok (.sipush 4903, 3) := by decide +kernel
theorem dX12_init_8 : decode cX12_init 8 = .ok (.newarray .int, 2) := by decide +kernel
theorem dX12_init_10 : decode cX12_init 10 = .ok (.putfield 7, 3) := by decide +kernel
theorem dX12_init_13 : decode cX12_init 13 = .ok (.aload_n 0, 1) := by decide +kernel
theorem dX12_init_14 : decode cX12_init 14 = .ok (.sipush 4903, 3) := by decide +kernel
theorem dX12_init_17 : decode cX12_init 17 = .ok (.newarray .int, 2) := by decide +kernel
theorem dX12_init_19 : decode cX12_init 19 = .ok (.putfield 13, 3) := by decide +kernel
theorem dX12_init_22 : decode cX12_init 22 = .ok (.aload_n 0, 1) := by decide +kernel
theorem dX12_init_23 : decode cX12_init 23 = .ok (.sipush 2820, 3) := by decide +kernel
theorem dX12_init_26 : decode cX12_init 26 = .ok (.newarray .int, 2) := by decide +kernel
theorem dX12_init_28 : decode cX12_init 28 = .ok (.putfield 16, 3) := by decide +kernel
theorem dX12_init_31 : decode cX12_init 31 = .ok (.aload_n 0, 1) := by decide +kernel
theorem dX12_init_32 : decode cX12_init 32 = .ok (.sipush 300, 3) := by decide +kernel
theorem dX12_init_35 : decode cX12_init 35 = .ok (.newarray .int, 2) := by decide +kernel
theorem dX12_init_37 : decode cX12_init 37 = .ok (.putfield 19, 3) := by decide +kernel
theorem dX12_init_40 : decode cX12_init 40 = .ok (.aload_n 0, 1) := by decide +kernel
theorem dX12_init_41 : decode cX12_init 41 = .ok (.iconst (-1), 1) := by decide +kernel
theorem dX12_init_42 : decode cX12_init 42 = .ok (.putfield 22, 3) := by decide +kernel
theorem dX12_init_45 : decode cX12_init 45 = .ok (.aload_n 0, 1) := by decide +kernel
theorem dX12_init_46 : decode cX12_init 46 = .ok (.iconst (-1), 1) := by decide +kernel
theorem dX12_init_47 : decode cX12_init 47 = .ok (.putfield 26, 3) := by decide +kernel
theorem dX12_init_50 : decode cX12_init 50 = .ok (.aload_n 0, 1) := by decide +kernel
theorem dX12_init_51 : decode cX12_init 51 = .ok (.sipush 160, 3) := by decide +kernel
theorem dX12_init_54 : decode cX12_init 54 = .ok (.newarray .int, 2) := by decide +kernel
theorem dX12_init_56 : decode cX12_init 56 = .ok (.putfield 29, 3) := by decide +kernel
theorem dX12_init_59 : decode cX12_init 59 = .ok (.aload_n 0, 1) := by decide +kernel
theorem dX12_init_60 : decode cX12_init 60 = .ok (.bipush 9, 2) := by decide +kernel
theorem dX12_init_62 : decode cX12_init 62 = .ok (.newarray .int, 2) := by decide +kernel
theorem dX12_init_64 : decode cX12_init 64 = .ok (.putfield 32, 3) := by decide +kernel
theorem dX12_init_67 : decode cX12_init 67 = .ok (.aload_n 0, 1) := by decide +kernel
theorem dX12_init_68 : decode cX12_init 68 = .ok (.sipush 330, 3) := by decide +kernel
theorem dX12_init_71 : decode cX12_init 71 = .ok (.newarray .long, 2) := by decide +kernel
theorem dX12_init_73 : decode cX12_init 73 = .ok (.putfield 35, 3) := by decide +kernel
theorem dX12_init_76 : decode cX12_init 76 = .ok (.aload_n 0, 1) := by decide +kernel
theorem dX12_init_77 : decode cX12_init 77 = .ok (.sipush 330, 3) := by decide +kernel
theorem dX12_init_80 : decode cX12_init 80 = .ok (.newarray .boolean, 2) := by decide +kernel
theorem dX12_init_82 : decode cX12_init 82 = .ok (.putfield 39, 3) := by decide +kernel
theorem dX12_init_85 : decode cX12_init 85 = .ok (.aload_n 0, 1) := by decide +kernel
theorem dX12_init_86 : decode cX12_init 86 = .ok (.iconst 1, 1) := by decide +kernel
theorem dX12_init_87 : decode cX12_init 87 = .ok (.putfield 43, 3) := by decide +kernel
theorem dX12_init_90 : decode cX12_init 90 = .ok (.aload_n 0, 1) := by decide +kernel
theorem dX12_init_91 : decode cX12_init 91 = .ok (.sipush 141, 3) := by decide +kernel
theorem dX12_init_94 : decode cX12_init 94 = .ok (.newarray .int, 2) := by decide +kernel
theorem dX12_init_96 : decode cX12_init 96 = .ok (.putfield 47, 3) := by decide +kernel
theorem dX12_init_99 : decode cX12_init 99 = .ok (.aload_n 0, 1) := by decide +kernel
theorem dX12_init_100 : decode cX12_init 100 = .ok (.iconst 5, 1) := by decide +kernel
theorem dX12_init_101 : decode cX12_init 101 = .ok (.newarray .int, 2) := by decide +kernel
theorem dX12_init_103 : decode cX12_init 103 = .ok (.putfield 50, 3) := by decide +kernel
theorem dX12_init_106 : decode cX12_init 106 = .ok (.aload_n 0, 1) := by decide +kernel
theorem dX12_init_107 : decode cX12_init 107 = .ok (.iconst 5, 1) := by decide +kernel
theorem dX12_init_108 : decode cX12_init 108 = .ok (.newarray .int, 2) := by decide +kernel
theorem dX12_init_110 : decode cX12_init 110 = .ok (.putfield 53, 3) := by decide +kernel
theorem dX12_init_113 : decode cX12_init 113 = .ok (.aload_n 0, 1) := by decide +kernel
theorem dX12_init_114 : decode cX12_init 114 = .ok (.getfield 7, 3) := by decide +kernel
theorem dX12_init_117 : decode cX12_init 117 = .ok (.bipush 9, 2) := by decide +kernel
theorem dX12_init_119 : decode cX12_init 119 = .ok (.sipush 211, 3) := by decide +kernel
theorem dX12_init_122 : decode cX12_init 122 = .ok (.iastore, 1) := by decide +kernel
theorem dX12_init_123 : decode cX12_init 123 = .ok (.aload_n 0, 1) := by decide +kernel
theorem dX12_init_124 : decode cX12_init 124 = .ok (.getfield 7, 3) := by decide +kernel
theorem dX12_init_127 : decode cX12_init 127 = .ok (.iconst 3, 1) := by decide +kernel
theorem dX12_init_128 : decode cX12_init 128 = .ok (.iconst (-1), 1) := by decide +kernel
theorem dX12_init_129 : decode cX12_init 129 = .ok (.iastore, 1) := by decide +kernel
theorem dX12_init_130 : decode cX12_init 130 = .ok (.iconst 0, 1) := by decide +kernel
theorem dX12_init_131 : decode cX12_init 131 = .ok (.istore_n 1, 1) := by decide +kernel
theorem dX12_init_132 : decode cX12_init 132 = .ok (.iload_n 1, 1) := by decide +kernel
theorem dX12_init_133 : decode cX12_init 133 = .ok (.iconst 5, 1) := by decide +kernel
theorem dX12_init_134 : decode cX12_init 134 = .ok (.if_icmp .gt 47, 3) := by decide +kernel
theorem dX12_init_137 : decode cX12_init 137 = .ok (.aload_n 0, 1) := by decide +kernel
theorem dX12_init_138 : decode cX12_init 138 = .ok (.getfield 7, 3) := by decide +kernel
theorem dX12_init_141 : decode cX12_init 141 = .ok (.sipush 141, 3) := by decide +kernel
theorem dX12_init_144 : decode cX12_init 144 = .ok (.iload_n 1, 1) := by decide +kernel
theorem dX12_init_145 : decode cX12_init 145 = .ok (.iadd, 1) := by decide +kernel
theorem dX12_init_146 : decode cX12_init 146 = .ok (.iload_n 1, 1) := by decide +kernel
theorem dX12_init_147 : decode cX12_init 147 = .ok (.ifCond .le 11, 3) := by decide +kernel
theorem dX12_init_150 : decode cX12_init 150 = .ok (.iconst 1, 1) := by decide +kernel
theorem dX12_init_151 : decode cX12_init 151 = .ok (.iload_n 1, 1) := by decide +kernel
theorem dX12_init_152 : decode cX12_init 152 = .ok (.iconst 1, 1) := by decide +kernel
theorem dX12_init_153 : decode cX12_init 153 = .ok (.isub, 1) := by decide +kernel
theorem dX12_init_154 : decode cX12_init 154 = .ok (.ishl, 1) := by decide +kernel
theorem dX12_init_155 : decode cX12_init 155 = .ok (.goto 4, 3) := by decide +kernel
theorem dX12_init_158 : decode cX12_init 158 = .ok (.iconst 0, 1) := by decide +kernel
theorem dX12_init_159 : decode cX12_init 159 = .ok (.iload_n 1, 1) := by decide +kernel
theorem dX12_init_160 : decode cX12_init 160 = .ok (.iconst 5, 1) := by decide +kernel
theorem dX12_init_161 : decode cX12_init 161 = .ok (.if_icmp .ge 11, 3) := by decide +kernel
theorem dX12_init_164 : decode cX12_init 164 = .ok (.iconst 1, 1) := by decide +kernel
theorem dX12_init_165 : decode cX12_init 165 = .ok (.iload_n 1, 1) := by decide +kernel
theorem dX12_init_166 : decode cX12_init 166 = .ok (.iconst 1, 1) := by decide +kernel
theorem dX12_init_167 : decode cX12_init 167 = .ok (.iadd, 1) := by decide +kernel
theorem dX12_init_168 : decode cX12_init 168 = .ok (.ishl, 1) := by decide +kernel
theorem dX12_init_169 : decode cX12_init 169 = .ok (.goto 4, 3) := by decide +kernel
theorem dX12_init_172 : decode cX12_init 172 = .ok (.iconst 0, 1) := by decide +kernel
theorem dX12_init_173 : decode cX12_init 173 = .ok (.ior, 1) := by decide +kernel
theorem dX12_init_174 : decode cX12_init 174 = .ok (.iastore, 1) := by decide +kernel
theorem dX12_init_175 : decode cX12_init 175 = .ok (.iinc 1 1, 3) := by decide +kernel
theorem dX12_init_178 : decode cX12_init 178 = .ok (.goto (-46), 3) := by decide +kernel
theorem dX12_init_181 : decode cX12_init 181 = .ok (.aload_n 0, 1) := by decide +kernel
theorem dX12_init_182 : decode cX12_init 182 = .ok (.getfield 7, 3) := by decide +kernel
theorem dX12_init_185 : decode cX12_init 185 = .ok (.sipush 147, 3) := by decide +kernel
theorem dX12_init_188 : decode cX12_init 188 = .ok (.bipush 10, 2) := by decide +kernel
theorem dX12_init_190 : decode cX12_init 190 = .ok (.iastore, 1) := by decide +kernel
theorem dX12_init_191 : decode cX12_init 191 = .ok (.aload_n 0, 1) := by decide +kernel
theorem dX12_init_192 : decode cX12_init 192 = .ok (.getfield 7, 3) := by decide +kernel
theorem dX12_init_195 : decode cX12_init 195 = .ok (.aload_n 0, 1) := by decide +kernel
theorem dX12_init_196 : decode cX12_init 196 = .ok (.getfield 13, 3) := by decide +kernel
theorem dX12_init_199 : decode cX12_init 199 = .ok (.invokestatic 56, 3) := by decide +kernel
theorem dX12_init_202 : decode cX12_init 202 = .ok (.return_, 1) := by decide +kernel
theorem dX12_copy_0 : decode cX12_copy 0 = .ok (.iconst 0, 1) := by decide +kernel
theorem dX12_copy_1 : decode cX12_copy 1 = .ok (.istore_n 2, 1) := by decide +kernel
theorem dX12_copy_2 : decode cX12_copy 2 = .ok (.iload_n 2, 1) := by decide +kernel
theorem dX12_copy_3 : decode cX12_copy 3 = .ok (.sipush 4903, 3) := by decide +kernel
theorem dX12_copy_6 : decode cX12_copy 6 = .ok (.if_icmp .ge 15, 3) := by decide +kernel
theorem dX12_copy_9 : decode cX12_copy 9 = .ok (.aload_n 1, 1) := by decide +kernel
theorem dX12_copy_10 : decode cX12_copy 10 = .ok (.iload_n 2, 1) := by decide +kernel
theorem dX12_copy_11 : decode cX12_copy 11 = .ok (.aload_n 0, 1) := by decide +kernel
theorem dX12_copy_12 : decode cX12_copy 12 = .ok (.iload_n 2, 1) := by decide +kernel
theorem dX12_copy_13 : decode cX12_copy 13 = .ok (.iaload, 1) := by decide +kernel
theorem dX12_copy_14 : decode cX12_copy 14 = .ok (.iastore, 1) := by decide +kernel
theorem dX12_copy_15 : decode cX12_copy 15 = .ok (.iinc 2 1, 3) := by decide +kernel
theorem dX12_copy_18 : decode cX12_copy 18 = .ok (.goto (-16), 3) := by decide +kernel
theorem dX12_copy_21 : decode cX12_copy 21 = .ok (.return_, 1) := by decide +kernel
theorem dX12_isIn_0 : decode cX12_isIn 0 = .ok (.iload_n 0, 1) := by decide +kernel
theorem dX12_isIn_1 : decode cX12_isIn 1 = .ok (.iload_n 1, 1) := by decide +kernel
theorem dX12_isIn_2 : decode cX12_isIn 2 = .ok (.if_icmp .lt 12, 3) := by decide +kernel
theorem dX12_isIn_5 : decode cX12_isIn 5 = .ok (.iload_n 0, 1) := by decide +kernel
theorem dX12_isIn_6 : decode cX12_isIn 6 = .ok (.iload_n 2, 1) := by decide +kernel
theorem dX12_isIn_7 : decode cX12_isIn 7 = .ok (.if_icmp .gt 7, 3) := by decide +kernel
theorem dX12_isIn_10 : decode cX12_isIn 10 = .ok (.iconst 1, 1) := by decide +kernel
theorem dX12_isIn_11 : decode cX12_isIn 11 = .ok (.goto 4, 3) := by decide +kernel
theorem dX12_isIn_14 : decode cX12_isIn 14 = .ok (.iconst 0, 1) := by decide +kernel
theorem dX12_isIn_15 : decode cX12_isIn 15 = .ok (.ireturn, 1) := by decide +kernel
theorem dX12_held_0 : decode cX12_held 0 = .ok (.lload_n 0, 1) := by decide +kernel
theorem dX12_held_1 : decode cX12_held 1 = .ok (.iload_n 2, 1) := by decide +kernel
theorem dX12_held_2 : decode cX12_held 2 = .ok (.i2l, 1) := by decide +kernel
theorem dX12_held_3 : decode cX12_held 3 = .ok (.lcmp, 1) := by decide +kernel
theorem dX12_held_4 : decode cX12_held 4 = .ok (.ifCond .ge 7, 3) := by decide +kernel
theorem dX12_held_7 : decode cX12_held 7 = .ok (.iload_n 2, 1) := by decide +kernel
theorem dX12_held_8 : decode cX12_held 8 = .ok (.goto 16, 3) := by decide +kernel
theorem dX12_held_11 : decode cX12_held 11 = .ok (.lload_n 0, 1) := by decide +kernel
theorem dX12_held_12 : decode cX12_held 12 = .ok (.iload_n 3, 1) := by decide +kernel
theorem dX12_held_13 : decode cX12_held 13 = .ok (.i2l, 1) := by decide +kernel
theorem dX12_held_14 : decode cX12_held 14 = .ok (.lcmp, 1) := by decide +kernel
theorem dX12_held_15 : decode cX12_held 15 = .ok (.ifCond .le 7, 3) := by decide +kernel
theorem dX12_held_18 : decode cX12_held 18 = .ok (.iload_n 3, 1) := by decide +kernel
theorem dX12_held_19 : decode cX12_held 19 = .ok (.goto 5, 3) := by decide +kernel
theorem dX12_held_22 : decode cX12_held 22 = .ok (.lload_n 0, 1) := by decide +kernel
theorem dX12_held_23 : decode cX12_held 23 = .ok (.l2i, 1) := by decide +kernel
theorem dX12_held_24 : decode cX12_held 24 = .ok (.ireturn, 1) := by decide +kernel
theorem dX12_has_0 : decode cX12_has 0 = .ok (.iload_n 0, 1) := by decide +kernel
theorem dX12_has_1 : decode cX12_has 1 = .ok (.iload_n 1, 1) := by decide +kernel
theorem dX12_has_2 : decode cX12_has 2 = .ok (.ishr, 1) := by decide +kernel
theorem dX12_has_3 : decode cX12_has 3 = .ok (.iconst 1, 1) := by decide +kernel
theorem dX12_has_4 : decode cX12_has 4 = .ok (.iand, 1) := by decide +kernel
theorem dX12_has_5 : decode cX12_has 5 = .ok (.iconst 1, 1) := by decide +kernel
theorem dX12_has_6 : decode cX12_has 6 = .ok (.if_icmp .ne 7, 3) := by decide +kernel
theorem dX12_has_9 : decode cX12_has 9 = .ok (.iconst 1, 1) := by decide +kernel
theorem dX12_has_10 : decode cX12_has 10 = .ok (.goto 4, 3) := by decide +kernel
theorem dX12_has_13 : decode cX12_has 13 = .ok (.iconst 0, 1) := by decide +kernel
theorem dX12_has_14 : decode cX12_has 14 = .ok (.ireturn, 1) := by decide +kernel
theorem dX12_bits_0 : decode cX12_bits 0 = .ok (.iconst 0, 1) := by decide +kernel
theorem dX12_bits_1 : decode cX12_bits 1 = .ok (.istore_n 1, 1) := by decide +kernel
theorem dX12_bits_2 : decode cX12_bits 2 = .ok (.iload_n 0, 1) := by decide +kernel
theorem dX12_bits_3 : decode cX12_bits 3 = .ok (.istore_n 2, 1) := by decide +kernel
theorem dX12_bits_4 : decode cX12_bits 4 = .ok (.iload_n 2, 1) := by decide +kernel
theorem dX12_bits_5 : decode cX12_bits 5 = .ok (.ifCond .eq 15, 3) := by decide +kernel
theorem dX12_bits_8 : decode cX12_bits 8 = .ok (.iinc 1 1, 3) := by decide +kernel
theorem dX12_bits_11 : decode cX12_bits 11 = .ok (.iload_n 2, 1) := by decide +kernel
theorem dX12_bits_12 : decode cX12_bits 12 = .ok (.iload_n 2, 1) := by decide +kernel
theorem dX12_bits_13 : decode cX12_bits 13 = .ok (.iconst 1, 1) := by decide +kernel
theorem dX12_bits_14 : decode cX12_bits 14 = .ok (.isub, 1) := by decide +kernel
theorem dX12_bits_15 : decode cX12_bits 15 = .ok (.iand, 1) := by decide +kernel
theorem dX12_bits_16 : decode cX12_bits 16 = .ok (.istore_n 2, 1) := by decide +kernel
theorem dX12_bits_17 : decode cX12_bits 17 = .ok (.goto (-13), 3) := by decide +kernel
theorem dX12_bits_20 : decode cX12_bits 20 = .ok (.iload_n 1, 1) := by decide +kernel
theorem dX12_bits_21 : decode cX12_bits 21 = .ok (.ireturn, 1) := by decide +kernel
theorem dX12_isLot_0 : decode cX12_isLot 0 = .ok (.iload_n 1, 1) := by decide +kernel
theorem dX12_isLot_1 : decode cX12_isLot 1 = .ok (.iconst 0, 1) := by decide +kernel
theorem dX12_isLot_2 : decode cX12_isLot 2 = .ok (.aload_n 0, 1) := by decide +kernel
theorem dX12_isLot_3 : decode cX12_isLot 3 = .ok (.getfield 7, 3) := by decide +kernel
theorem dX12_isLot_6 : decode cX12_isLot 6 = .ok (.iconst 0, 1) := by decide +kernel
theorem dX12_isLot_7 : decode cX12_isLot 7 = .ok (.iaload, 1) := by decide +kernel
theorem dX12_isLot_8 : decode cX12_isLot 8 = .ok (.iconst 1, 1) := by decide +kernel
theorem dX12_isLot_9 : decode cX12_isLot 9 = .ok (.isub, 1) := by decide +kernel
theorem dX12_isLot_10 : decode cX12_isLot 10 = .ok (.invokestatic 60, 3) := by decide +kernel
theorem dX12_isLot_13 : decode cX12_isLot 13 = .ok (.ireturn, 1) := by decide +kernel
theorem dX12_isBidder_0 : decode cX12_isBidder 0 = .ok (.iload_n 1, 1) := by decide +kernel
theorem dX12_isBidder_1 : decode cX12_isBidder 1 = .ok (.iconst 0, 1) := by decide +kernel
theorem dX12_isBidder_2 : decode cX12_isBidder 2 = .ok (.aload_n 0, 1) := by decide +kernel
theorem dX12_isBidder_3 : decode cX12_isBidder 3 = .ok (.getfield 7, 3) := by decide +kernel
theorem dX12_isBidder_6 : decode cX12_isBidder 6 = .ok (.iconst 1, 1) := by decide +kernel
theorem dX12_isBidder_7 : decode cX12_isBidder 7 = .ok (.iaload, 1) := by decide +kernel
theorem dX12_isBidder_8 : decode cX12_isBidder 8 = .ok (.iconst 1, 1) := by decide +kernel
theorem dX12_isBidder_9 : decode cX12_isBidder 9 = .ok (.isub, 1) := by decide +kernel
theorem dX12_isBidder_10 : decode cX12_isBidder 10 = .ok (.invokestatic 60, 3) := by decide +kernel
theorem dX12_isBidder_13 : decode cX12_isBidder 13 = .ok (.ireturn, 1) := by decide +kernel
theorem dX12_isFloor_0 : decode cX12_isFloor 0 = .ok (.iload_n 0, 1) := by decide +kernel
theorem dX12_isFloor_1 : decode cX12_isFloor 1 = .ok (.iconst 0, 1) := by decide +kernel
theorem dX12_isFloor_2 : decode cX12_isFloor 2 = .ok (.iconst 5, 1) := by decide +kernel
theorem dX12_isFloor_3 : decode cX12_isFloor 3 = .ok (.invokestatic 60, 3) := by decide +kernel
theorem dX12_isFloor_6 : decode cX12_isFloor 6 = .ok (.ireturn, 1) := by decide +kernel
theorem dX12_get_0 : decode cX12_get 0 = .ok (.aload_n 0, 1) := by decide +kernel
theorem dX12_get_1 : decode cX12_get 1 = .ok (.getfield 7, 3) := by decide +kernel
theorem dX12_get_4 : decode cX12_get 4 = .ok (.bipush 11, 2) := by decide +kernel
theorem dX12_get_6 : decode cX12_get 6 = .ok (.iconst 5, 1) := by decide +kernel
theorem dX12_get_7 : decode cX12_get 7 = .ok (.iload_n 1, 1) := by decide +kernel
theorem dX12_get_8 : decode cX12_get 8 = .ok (.imul, 1) := by decide +kernel
theorem dX12_get_9 : decode cX12_get 9 = .ok (.iadd, 1) := by decide +kernel
theorem dX12_get_10 : decode cX12_get 10 = .ok (.iload_n 2, 1) := by decide +kernel
theorem dX12_get_11 : decode cX12_get 11 = .ok (.iadd, 1) := by decide +kernel
theorem dX12_get_12 : decode cX12_get 12 = .ok (.iaload, 1) := by decide +kernel
theorem dX12_get_13 : decode cX12_get 13 = .ok (.ireturn, 1) := by decide +kernel
theorem dX12_put_0 : decode cX12_put 0 = .ok (.aload_n 0, 1) := by decide +kernel
theorem dX12_put_1 : decode cX12_put 1 = .ok (.getfield 7, 3) := by decide +kernel
theorem dX12_put_4 : decode cX12_put 4 = .ok (.bipush 11, 2) := by decide +kernel
theorem dX12_put_6 : decode cX12_put 6 = .ok (.iconst 5, 1) := by decide +kernel
theorem dX12_put_7 : decode cX12_put 7 = .ok (.iload_n 1, 1) := by decide +kernel
theorem dX12_put_8 : decode cX12_put 8 = .ok (.imul, 1) := by decide +kernel
theorem dX12_put_9 : decode cX12_put 9 = .ok (.iadd, 1) := by decide +kernel
theorem dX12_put_10 : decode cX12_put 10 = .ok (.iload_n 2, 1) := by decide +kernel
theorem dX12_put_11 : decode cX12_put 11 = .ok (.iadd, 1) := by decide +kernel
theorem dX12_put_12 : decode cX12_put 12 = .ok (.iload_n 3, 1) := by decide +kernel
theorem dX12_put_13 : decode cX12_put 13 = .ok (.iastore, 1) := by decide +kernel
theorem dX12_put_14 : decode cX12_put 14 = .ok (.return_, 1) := by decide +kernel
theorem dX12_own_0 : decode cX12_own 0 = .ok (.aload_n 0, 1) := by decide +kernel
theorem dX12_own_1 : decode cX12_own 1 = .ok (.getfield 7, 3) := by decide +kernel
theorem dX12_own_4 : decode cX12_own 4 = .ok (.bipush 71, 2) := by decide +kernel
theorem dX12_own_6 : decode cX12_own 6 = .ok (.bipush 14, 2) := by decide +kernel
theorem dX12_own_8 : decode cX12_own 8 = .ok (.iload_n 1, 1) := by decide +kernel
theorem dX12_own_9 : decode cX12_own 9 = .ok (.imul, 1) := by decide +kernel
theorem dX12_own_10 : decode cX12_own 10 = .ok (.iadd, 1) := by decide +kernel
theorem dX12_own_11 : decode cX12_own 11 = .ok (.iload_n 2, 1) := by decide +kernel
theorem dX12_own_12 : decode cX12_own 12 = .ok (.iadd, 1) := by decide +kernel
theorem dX12_own_13 : decode cX12_own 13 = .ok (.iaload, 1) := by decide +kernel
theorem dX12_own_14 : decode cX12_own 14 = .ok (.ireturn, 1) := by decide +kernel
theorem dX12_lay_0 : decode cX12_lay 0 = .ok (.aload_n 0, 1) := by decide +kernel
theorem dX12_lay_1 : decode cX12_lay 1 = .ok (.getfield 7, 3) := by decide +kernel
theorem dX12_lay_4 : decode cX12_lay 4 = .ok (.bipush 71, 2) := by decide +kernel
theorem dX12_lay_6 : decode cX12_lay 6 = .ok (.bipush 14, 2) := by decide +kernel
theorem dX12_lay_8 : decode cX12_lay 8 = .ok (.iload_n 1, 1) := by decide +kernel
theorem dX12_lay_9 : decode cX12_lay 9 = .ok (.imul, 1) := by decide +kernel
theorem dX12_lay_10 : decode cX12_lay 10 = .ok (.iadd, 1) := by decide +kernel
theorem dX12_lay_11 : decode cX12_lay 11 = .ok (.iload_n 2, 1) := by decide +kernel
theorem dX12_lay_12 : decode cX12_lay 12 = .ok (.iadd, 1) := by decide +kernel
theorem dX12_lay_13 : decode cX12_lay 13 = .ok (.iload_n 3, 1) := by decide +kernel
theorem dX12_lay_14 : decode cX12_lay 14 = .ok (.iastore, 1) := by decide +kernel
theorem dX12_lay_15 : decode cX12_lay 15 = .ok (.return_, 1) := by decide +kernel
theorem dX12_saleFloor_0 : decode cX12_saleFloor 0 = .ok (.aload_n 0, 1) := by decide +kernel
theorem dX12_saleFloor_1 : decode cX12_saleFloor 1 = .ok (.getfield 7, 3) := by decide +kernel
theorem dX12_saleFloor_4 : decode cX12_saleFloor 4 = .ok (.bipush 7, 2) := by decide +kernel
theorem dX12_saleFloor_6 : decode cX12_saleFloor 6 = .ok (.iaload, 1) := by decide +kernel
theorem dX12_saleFloor_7 : decode cX12_saleFloor 7 = .ok (.iconst 5, 1) := by decide +kernel
theorem dX12_saleFloor_8 : decode cX12_saleFloor 8 = .ok (.if_icmp .ge 13, 3) := by decide +kernel
theorem dX12_saleFloor_11 : decode cX12_saleFloor 11 = .ok (.aload_n 0, 1) := by decide +kernel
theorem dX12_saleFloor_12 : decode cX12_saleFloor 12 = .ok (.getfield 7, 3) := by decide +kernel
theorem dX12_saleFloor_15 : decode cX12_saleFloor 15 = .ok (.bipush 7, 2) := by decide +kernel
theorem dX12_saleFloor_17 : decode cX12_saleFloor 17 = .ok (.iaload, 1) := by decide +kernel
theorem dX12_saleFloor_18 : decode cX12_saleFloor 18 = .ok (.goto 4, 3) := by decide +kernel
theorem dX12_saleFloor_21 : decode cX12_saleFloor 21 = .ok (.iconst 5, 1) := by decide +kernel
theorem dX12_saleFloor_22 : decode cX12_saleFloor 22 = .ok (.ireturn, 1) := by decide +kernel
theorem dX12_isInHouse_0 : decode cX12_isInHouse 0 = .ok (.aload_n 0, 1) := by decide +kernel
theorem dX12_isInHouse_1 : decode cX12_isInHouse 1 = .ok (.iload_n 1, 1) := by decide +kernel
theorem dX12_isInHouse_2 : decode cX12_isInHouse 2 = .ok (.invokevirtual 64, 3) := by decide +kernel
theorem dX12_isInHouse_5 : decode cX12_isInHouse 5 = .ok (.ifCond .eq 16, 3) := by decide +kernel
theorem dX12_isInHouse_8 : decode cX12_isInHouse 8 = .ok (.aload_n 0, 1) := by decide +kernel
theorem dX12_isInHouse_9 : decode cX12_isInHouse 9 = .ok (.iload_n 1, 1) := by decide +kernel
theorem dX12_isInHouse_10 : decode cX12_isInHouse 10 = .ok (.iconst 1, 1) := by decide +kernel
theorem dX12_isInHouse_11 : decode cX12_isInHouse 11 = .ok (.invokevirtual 68, 3) := by decide +kernel
theorem dX12_isInHouse_14 : decode cX12_isInHouse 14 = .ok (.ifCond .ne 7, 3) := by decide +kernel
theorem dX12_isInHouse_17 : decode cX12_isInHouse 17 = .ok (.iconst 1, 1) := by decide +kernel
theorem dX12_isInHouse_18 : decode cX12_isInHouse 18 = .ok (.goto 4, 3) := by decide +kernel
theorem dX12_isInHouse_21 : decode cX12_isInHouse 21 = .ok (.iconst 0, 1) := by decide +kernel
theorem dX12_isInHouse_22 : decode cX12_isInHouse 22 = .ok (.ireturn, 1) := by decide +kernel
theorem dX12_hasLots_0 : decode cX12_hasLots 0 = .ok (.iconst 0, 1) := by decide +kernel
theorem dX12_hasLots_1 : decode cX12_hasLots 1 = .ok (.istore_n 2, 1) := by decide +kernel
theorem dX12_hasLots_2 : decode cX12_hasLots 2 = .ok (.iconst 0, 1) := by decide +kernel
theorem dX12_hasLots_3 : decode cX12_hasLots 3 = .ok (.istore_n 3, 1) := by decide +kernel
theorem dX12_hasLots_4 : decode cX12_hasLots 4 = .ok (.iload_n 3, 1) := by decide +kernel
theorem dX12_hasLots_5 : decode cX12_hasLots 5 = .ok (.aload_n 0, 1) := by decide +kernel
theorem dX12_hasLots_6 : decode cX12_hasLots 6 = .ok (.getfield 7, 3) := by decide +kernel
theorem dX12_hasLots_9 : decode cX12_hasLots 9 = .ok (.iconst 0, 1) := by decide +kernel
theorem dX12_hasLots_10 : decode cX12_hasLots 10 = .ok (.iaload, 1) := by decide +kernel
theorem dX12_hasLots_11 : decode cX12_hasLots 11 = .ok (.if_icmp .ge 31, 3) := by decide +kernel
theorem dX12_hasLots_14 : decode cX12_hasLots 14 = .ok (.iload_n 2, 1) := by decide +kernel
theorem dX12_hasLots_15 : decode cX12_hasLots 15 = .ok (.aload_n 0, 1) := by decide +kernel
theorem dX12_hasLots_16 : decode cX12_hasLots 16 = .ok (.iload_n 3, 1) := by decide +kernel
theorem dX12_hasLots_17 : decode cX12_hasLots 17 = .ok (.iconst 1, 1) := by decide +kernel
theorem dX12_hasLots_18 : decode cX12_hasLots 18 = .ok (.invokevirtual 68, 3) := by decide +kernel
theorem dX12_hasLots_21 : decode cX12_hasLots 21 = .ok (.iconst 3, 1) := by decide +kernel
theorem dX12_hasLots_22 : decode cX12_hasLots 22 = .ok (.iload_n 1, 1) := by decide +kernel
theorem dX12_hasLots_23 : decode cX12_hasLots 23 = .ok (.iadd, 1) := by decide +kernel
theorem dX12_hasLots_24 : decode cX12_hasLots 24 = .ok (.if_icmp .ne 9, 3) := by decide +kernel
theorem dX12_hasLots_27 : decode cX12_hasLots 27 = .ok (.iconst 1, 1) := by decide +kernel
theorem dX12_hasLots_28 : decode cX12_hasLots 28 = .ok (.iload_n 3, 1) := by decide +kernel
theorem dX12_hasLots_29 : decode cX12_hasLots 29 = .ok (.ishl, 1) := by decide +kernel
theorem dX12_hasLots_30 : decode cX12_hasLots 30 = .ok (.goto 4, 3) := by decide +kernel
theorem dX12_hasLots_33 : decode cX12_hasLots 33 = .ok (.iconst 0, 1) := by decide +kernel
theorem dX12_hasLots_34 : decode cX12_hasLots 34 = .ok (.ior, 1) := by decide +kernel
theorem dX12_hasLots_35 : decode cX12_hasLots 35 = .ok (.istore_n 2, 1) := by decide +kernel
theorem dX12_hasLots_36 : decode cX12_hasLots 36 = .ok (.iinc 3 1, 3) := by decide +kernel
theorem dX12_hasLots_39 : decode cX12_hasLots 39 = .ok (.goto (-35), 3) := by decide +kernel
theorem dX12_hasLots_42 : decode cX12_hasLots 42 = .ok (.iload_n 2, 1) := by decide +kernel
theorem dX12_hasLots_43 : decode cX12_hasLots 43 = .ok (.ireturn, 1) := by decide +kernel
theorem dX12_lot_0 : decode cX12_lot 0 = .ok (.iload_n 1, 1) := by decide +kernel
theorem dX12_lot_1 : decode cX12_lot 1 = .ok (.invokestatic 72, 3) := by decide +kernel
theorem dX12_lot_4 : decode cX12_lot 4 = .ok (.ifCond .eq 34, 3) := by decide +kernel
theorem dX12_lot_7 : decode cX12_lot 7 = .ok (.iload_n 2, 1) := by decide +kernel
theorem dX12_lot_8 : decode cX12_lot 8 = .ok (.iconst 0, 1) := by decide +kernel
theorem dX12_lot_9 : decode cX12_lot 9 = .ok (.bipush 99, 2) := by decide +kernel
theorem dX12_lot_11 : decode cX12_lot 11 = .ok (.invokestatic 60, 3) := by decide +kernel
theorem dX12_lot_14 : decode cX12_lot 14 = .ok (.ifCond .eq 24, 3) := by decide +kernel
theorem dX12_lot_17 : decode cX12_lot 17 = .ok (.iload_n 3, 1) := by decide +kernel
theorem dX12_lot_18 : decode cX12_lot 18 = .ok (.iconst 1, 1) := by decide +kernel
theorem dX12_lot_19 : decode cX12_lot 19 = .ok (.bipush 9, 2) := by decide +kernel
theorem dX12_lot_21 : decode cX12_lot 21 = .ok (.invokestatic 60, 3) := by decide +kernel
theorem dX12_lot_24 : decode cX12_lot 24 = .ok (.ifCond .eq 14, 3) := by decide +kernel
theorem dX12_lot_27 : decode cX12_lot 27 = .ok (.aload_n 0, 1) := by decide +kernel
theorem dX12_lot_28 : decode cX12_lot 28 = .ok (.getfield 7, 3) := by decide +kernel
theorem dX12_lot_31 : decode cX12_lot 31 = .ok (.iconst 0, 1) := by decide +kernel
theorem dX12_lot_32 : decode cX12_lot 32 = .ok (.iaload, 1) := by decide +kernel
theorem dX12_lot_33 : decode cX12_lot 33 = .ok (.bipush 12, 2) := by decide +kernel
theorem dX12_lot_35 : decode cX12_lot 35 = .ok (.if_icmp .ne 5, 3) := by decide +kernel
theorem dX12_lot_38 : decode cX12_lot 38 = .ok (.iconst (-1), 1) := by decide +kernel
theorem dX12_lot_39 : decode cX12_lot 39 = .ok (.ireturn, 1) := by decide +kernel
theorem dX12_lot_40 : decode cX12_lot 40 = .ok (.aload_n 0, 1) := by decide +kernel
theorem dX12_lot_41 : decode cX12_lot 41 = .ok (.getfield 7, 3) := by decide +kernel
theorem dX12_lot_44 : decode cX12_lot 44 = .ok (.iconst 0, 1) := by decide +kernel
theorem dX12_lot_45 : decode cX12_lot 45 = .ok (.iaload, 1) := by decide +kernel
theorem dX12_lot_46 : decode cX12_lot 46 = .ok (.istore 4, 2) := by decide +kernel
theorem dX12_lot_48 : decode cX12_lot 48 = .ok (.aload_n 0, 1) := by decide +kernel
theorem dX12_lot_49 : decode cX12_lot 49 = .ok (.iload 4, 2) := by decide +kernel
theorem dX12_lot_51 : decode cX12_lot 51 = .ok (.iconst 0, 1) := by decide +kernel
theorem dX12_lot_52 : decode cX12_lot 52 = .ok (.iload_n 1, 1) := by decide +kernel
theorem dX12_lot_53 : decode cX12_lot 53 = .ok (.invokevirtual 75, 3) := by decide +kernel
theorem dX12_lot_56 : decode cX12_lot 56 = .ok (.aload_n 0, 1) := by decide +kernel
theorem dX12_lot_57 : decode cX12_lot 57 = .ok (.iload 4, 2) := by decide +kernel
theorem dX12_lot_59 : decode cX12_lot 59 = .ok (.iconst 1, 1) := by decide +kernel
theorem dX12_lot_60 : decode cX12_lot 60 = .ok (.iconst 0, 1) := by decide +kernel
theorem dX12_lot_61 : decode cX12_lot 61 = .ok (.invokevirtual 75, 3) := by decide +kernel
theorem dX12_lot_64 : decode cX12_lot 64 = .ok (.aload_n 0, 1) := by decide +kernel
theorem dX12_lot_65 : decode cX12_lot 65 = .ok (.iload 4, 2) := by decide +kernel
theorem dX12_lot_67 : decode cX12_lot 67 = .ok (.iconst 2, 1) := by decide +kernel
theorem dX12_lot_68 : decode cX12_lot 68 = .ok (.iload_n 2, 1) := by decide +kernel
theorem dX12_lot_69 : decode cX12_lot 69 = .ok (.invokevirtual 75, 3) := by decide +kernel
theorem dX12_lot_72 : decode cX12_lot 72 = .ok (.aload_n 0, 1) := by decide +kernel
theorem dX12_lot_73 : decode cX12_lot 73 = .ok (.iload 4, 2) := by decide +kernel
theorem dX12_lot_75 : decode cX12_lot 75 = .ok (.iconst 3, 1) := by decide +kernel
theorem dX12_lot_76 : decode cX12_lot 76 = .ok (.iload_n 3, 1) := by decide +kernel
theorem dX12_lot_77 : decode cX12_lot 77 = .ok (.invokevirtual 75, 3) := by decide +kernel
theorem dX12_lot_80 : decode cX12_lot 80 = .ok (.aload_n 0, 1) := by decide +kernel
theorem dX12_lot_81 : decode cX12_lot 81 = .ok (.iload 4, 2) := by decide +kernel
theorem dX12_lot_83 : decode cX12_lot 83 = .ok (.iconst 4, 1) := by decide +kernel
theorem dX12_lot_84 : decode cX12_lot 84 = .ok (.iload_n 1, 1) := by decide +kernel
theorem dX12_lot_85 : decode cX12_lot 85 = .ok (.invokevirtual 75, 3) := by decide +kernel
theorem dX12_lot_88 : decode cX12_lot 88 = .ok (.aload_n 0, 1) := by decide +kernel
theorem dX12_lot_89 : decode cX12_lot 89 = .ok (.getfield 7, 3) := by decide +kernel
theorem dX12_lot_92 : decode cX12_lot 92 = .ok (.iconst 0, 1) := by decide +kernel
theorem dX12_lot_93 : decode cX12_lot 93 = .ok (.dup2, 1) := by decide +kernel
theorem dX12_lot_94 : decode cX12_lot 94 = .ok (.iaload, 1) := by decide +kernel
theorem dX12_lot_95 : decode cX12_lot 95 = .ok (.iconst 1, 1) := by decide +kernel
theorem dX12_lot_96 : decode cX12_lot 96 = .ok (.iadd, 1) := by decide +kernel
theorem dX12_lot_97 : decode cX12_lot 97 = .ok (.iastore, 1) := by decide +kernel
theorem dX12_lot_98 : decode cX12_lot 98 = .ok (.iload 4, 2) := by decide +kernel
theorem dX12_lot_100 : decode cX12_lot 100 = .ok (.ireturn, 1) := by decide +kernel
theorem dX12_bidder_0 : decode cX12_bidder 0 = .ok (.iload_n 1, 1) := by decide +kernel
theorem dX12_bidder_1 : decode cX12_bidder 1 = .ok (.iconst 0, 1) := by decide +kernel
theorem dX12_bidder_2 : decode cX12_bidder 2 = .ok (.sipush 9999, 3) := by decide +kernel
theorem dX12_bidder_5 : decode cX12_bidder 5 = .ok (.invokestatic 60, 3) := by decide +kernel
theorem dX12_bidder_8 : decode cX12_bidder 8 = .ok (.ifCond .eq 13, 3) := by decide +kernel
theorem dX12_bidder_11 : decode cX12_bidder 11 = .ok (.aload_n 0, 1) := by decide +kernel
theorem dX12_bidder_12 : decode cX12_bidder 12 = .ok (.getfield 7, 3) := by decide +kernel
theorem dX12_bidder_15 : decode cX12_bidder 15 = .ok (.iconst 1, 1) := by decide +kernel
theorem dX12_bidder_16 : decode cX12_bidder 16 = .ok (.iaload, 1) := by decide +kernel
theorem dX12_bidder_17 : decode cX12_bidder 17 = .ok (.iconst 5, 1) := by decide +kernel
theorem dX12_bidder_18 : decode cX12_bidder 18 = .ok (.if_icmp .ne 5, 3) := by decide +kernel
theorem dX12_bidder_21 : decode cX12_bidder 21 = .ok (.iconst (-1), 1) := by decide +kernel
theorem dX12_bidder_22 : decode cX12_bidder 22 = .ok (.ireturn, 1) := by decide +kernel
theorem dX12_bidder_23 : decode cX12_bidder 23 = .ok (.aload_n 0, 1) := by decide +kernel
theorem dX12_bidder_24 : decode cX12_bidder 24 = .ok (.getfield 7, 3) := by decide +kernel
theorem dX12_bidder_27 : decode cX12_bidder 27 = .ok (.iconst 1, 1) := by decide +kernel
theorem dX12_bidder_28 : decode cX12_bidder 28 = .ok (.iaload, 1) := by decide +kernel
theorem dX12_bidder_29 : decode cX12_bidder 29 = .ok (.istore_n 2, 1) := by decide +kernel
theorem dX12_bidder_30 : decode cX12_bidder 30 = .ok (.aload_n 0, 1) := by decide +kernel
theorem dX12_bidder_31 : decode cX12_bidder 31 = .ok (.iload_n 2, 1) := by decide +kernel
theorem dX12_bidder_32 : decode cX12_bidder 32 = .ok (.iconst 0, 1) := by decide +kernel
theorem dX12_bidder_33 : decode cX12_bidder 33 = .ok (.iload_n 1, 1) := by decide +kernel
theorem dX12_bidder_34 : decode cX12_bidder 34 = .ok (.invokevirtual 79, 3) := by decide +kernel
theorem dX12_bidder_37 : decode cX12_bidder 37 = .ok (.aload_n 0, 1) := by decide +kernel
theorem dX12_bidder_38 : decode cX12_bidder 38 = .ok (.iload_n 2, 1) := by decide +kernel
theorem dX12_bidder_39 : decode cX12_bidder 39 = .ok (.bipush 13, 2) := by decide +kernel
theorem dX12_bidder_41 : decode cX12_bidder 41 = .ok (.iload_n 1, 1) := by decide +kernel
theorem dX12_bidder_42 : decode cX12_bidder 42 = .ok (.invokevirtual 79, 3) := by decide +kernel
theorem dX12_bidder_45 : decode cX12_bidder 45 = .ok (.iconst 0, 1) := by decide +kernel
theorem dX12_bidder_46 : decode cX12_bidder 46 = .ok (.istore_n 3, 1) := by decide +kernel
theorem dX12_bidder_47 : decode cX12_bidder 47 = .ok (.iload_n 3, 1) := by decide +kernel
theorem dX12_bidder_48 : decode cX12_bidder 48 = .ok (.bipush 12, 2) := by decide +kernel
theorem dX12_bidder_50 : decode cX12_bidder 50 = .ok (.if_icmp .ge 18, 3) := by decide +kernel
theorem dX12_bidder_53 : decode cX12_bidder 53 = .ok (.aload_n 0, 1) := by decide +kernel
theorem dX12_bidder_54 : decode cX12_bidder 54 = .ok (.iload_n 2, 1) := by decide +kernel
theorem dX12_bidder_55 : decode cX12_bidder 55 = .ok (.iconst 1, 1) := by decide +kernel
theorem dX12_bidder_56 : decode cX12_bidder 56 = .ok (.iload_n 3, 1) := by decide +kernel
theorem dX12_bidder_57 : decode cX12_bidder 57 = .ok (.iadd, 1) := by decide +kernel
theorem dX12_bidder_58 : decode cX12_bidder 58 = .ok (.iconst 0, 1) := by decide +kernel
theorem dX12_bidder_59 : decode cX12_bidder 59 = .ok (.invokevirtual 79, 3) := by decide +kernel
theorem dX12_bidder_62 : decode cX12_bidder 62 = .ok (.iinc 3 1, 3) := by decide +kernel
theorem dX12_bidder_65 : decode cX12_bidder 65 = .ok (.goto (-18), 3) := by decide +kernel
theorem dX12_bidder_68 : decode cX12_bidder 68 = .ok (.aload_n 0, 1) := by decide +kernel
theorem dX12_bidder_69 : decode cX12_bidder 69 = .ok (.getfield 7, 3) := by decide +kernel
theorem dX12_bidder_72 : decode cX12_bidder 72 = .ok (.iconst 1, 1) := by decide +kernel
theorem dX12_bidder_73 : decode cX12_bidder 73 = .ok (.dup2, 1) := by decide +kernel
theorem dX12_bidder_74 : decode cX12_bidder 74 = .ok (.iaload, 1) := by decide +kernel
theorem dX12_bidder_75 : decode cX12_bidder 75 = .ok (.iconst 1, 1) := by decide +kernel
theorem dX12_bidder_76 : decode cX12_bidder 76 = .ok (.iadd, 1) := by decide +kernel
theorem dX12_bidder_77 : decode cX12_bidder 77 = .ok (.iastore, 1) := by decide +kernel
theorem dX12_bidder_78 : decode cX12_bidder 78 = .ok (.iload_n 2, 1) := by decide +kernel
theorem dX12_bidder_79 : decode cX12_bidder 79 = .ok (.ireturn, 1) := by decide +kernel
theorem dX12_want_0 : decode cX12_want 0 = .ok (.aload_n 0, 1) := by decide +kernel
theorem dX12_want_1 : decode cX12_want 1 = .ok (.iload_n 1, 1) := by decide +kernel
theorem dX12_want_2 : decode cX12_want 2 = .ok (.invokevirtual 82, 3) := by decide +kernel
theorem dX12_want_5 : decode cX12_want 5 = .ok (.ifCond .eq 21, 3) := by decide +kernel
theorem dX12_want_8 : decode cX12_want 8 = .ok (.aload_n 0, 1) := by decide +kernel
theorem dX12_want_9 : decode cX12_want 9 = .ok (.iload_n 2, 1) := by decide +kernel
theorem dX12_want_10 : decode cX12_want 10 = .ok (.invokevirtual 64, 3) := by decide +kernel
theorem dX12_want_13 : decode cX12_want 13 = .ok (.ifCond .eq 13, 3) := by decide +kernel
theorem dX12_want_16 : decode cX12_want 16 = .ok (.iload_n 3, 1) := by decide +kernel
theorem dX12_want_17 : decode cX12_want 17 = .ok (.iconst 0, 1) := by decide +kernel
theorem dX12_want_18 : decode cX12_want 18 = .ok (.bipush 99, 2) := by decide +kernel
theorem dX12_want_20 : decode cX12_want 20 = .ok (.invokestatic 60, 3) := by decide +kernel
theorem dX12_want_23 : decode cX12_want 23 = .ok (.ifCond .ne 5, 3) := by decide +kernel
theorem dX12_want_26 : decode cX12_want 26 = .ok (.iconst 0, 1) := by decide +kernel
theorem dX12_want_27 : decode cX12_want 27 = .ok (.ireturn, 1) := by decide +kernel
theorem dX12_want_28 : decode cX12_want 28 = .ok (.aload_n 0, 1) := by decide +kernel
theorem dX12_want_29 : decode cX12_want 29 = .ok (.iload_n 1, 1) := by decide +kernel
theorem dX12_want_30 : decode cX12_want 30 = .ok (.iconst 1, 1) := by decide +kernel
theorem dX12_want_31 : decode cX12_want 31 = .ok (.iload_n 2, 1) := by decide +kernel
theorem dX12_want_32 : decode cX12_want 32 = .ok (.iadd, 1) := by decide +kernel
theorem dX12_want_33 : decode cX12_want 33 = .ok (.iload_n 3, 1) := by decide +kernel
theorem dX12_want_34 : decode cX12_want 34 = .ok (.invokevirtual 79, 3) := by decide +kernel
theorem dX12_want_37 : decode cX12_want 37 = .ok (.iconst 0, 1) := by decide +kernel
theorem dX12_want_38 : decode cX12_want 38 = .ok (.istore 4, 2) := by decide +kernel
theorem dX12_want_40 : decode cX12_want 40 = .ok (.iload 4, 2) := by decide +kernel
theorem dX12_want_42 : decode cX12_want 42 = .ok (.aload_n 0, 1) := by decide +kernel
theorem dX12_want_43 : decode cX12_want 43 = .ok (.getfield 7, 3) := by decide +kernel
theorem dX12_want_46 : decode cX12_want 46 = .ok (.iconst 4, 1) := by decide +kernel
theorem dX12_want_47 : decode cX12_want 47 = .ok (.iaload, 1) := by decide +kernel
theorem dX12_want_48 : decode cX12_want 48 = .ok (.if_icmp .ge 37, 3) := by decide +kernel
theorem dX12_want_51 : decode cX12_want 51 = .ok (.aload_n 0, 1) := by decide +kernel
theorem dX12_want_52 : decode cX12_want 52 = .ok (.getfield 7, 3) := by decide +kernel
theorem dX12_want_55 : decode cX12_want 55 = .ok (.sipush 193, 3) := by decide +kernel
theorem dX12_want_58 : decode cX12_want 58 = .ok (.sipush 155, 3) := by decide +kernel
theorem dX12_want_61 : decode cX12_want 61 = .ok (.iload 4, 2) := by decide +kernel
theorem dX12_want_63 : decode cX12_want 63 = .ok (.imul, 1) := by decide +kernel
theorem dX12_want_64 : decode cX12_want 64 = .ok (.iadd, 1) := by decide +kernel
theorem dX12_want_65 : decode cX12_want 65 = .ok (.bipush 30, 2) := by decide +kernel
theorem dX12_want_67 : decode cX12_want 67 = .ok (.iadd, 1) := by decide +kernel
theorem dX12_want_68 : decode cX12_want 68 = .ok (.bipush 13, 2) := by decide +kernel
theorem dX12_want_70 : decode cX12_want 70 = .ok (.iload_n 1, 1) := by decide +kernel
theorem dX12_want_71 : decode cX12_want 71 = .ok (.imul, 1) := by decide +kernel
theorem dX12_want_72 : decode cX12_want 72 = .ok (.iadd, 1) := by decide +kernel
theorem dX12_want_73 : decode cX12_want 73 = .ok (.iconst 1, 1) := by decide +kernel
theorem dX12_want_74 : decode cX12_want 74 = .ok (.iadd, 1) := by decide +kernel
theorem dX12_want_75 : decode cX12_want 75 = .ok (.iload_n 2, 1) := by decide +kernel
theorem dX12_want_76 : decode cX12_want 76 = .ok (.iadd, 1) := by decide +kernel
theorem dX12_want_77 : decode cX12_want 77 = .ok (.iload_n 3, 1) := by decide +kernel
theorem dX12_want_78 : decode cX12_want 78 = .ok (.iastore, 1) := by decide +kernel
theorem dX12_want_79 : decode cX12_want 79 = .ok (.iinc 4 1, 3) := by decide +kernel
theorem dX12_want_82 : decode cX12_want 82 = .ok (.goto (-42), 3) := by decide +kernel
theorem dX12_want_85 : decode cX12_want 85 = .ok (.iconst 1, 1) := by decide +kernel
theorem dX12_want_86 : decode cX12_want 86 = .ok (.ireturn, 1) := by decide +kernel
theorem dX12_four_0 : decode cX12_four 0 = .ok (.bipush 24, 2) := by decide +kernel
theorem dX12_four_2 : decode cX12_four 2 = .ok (.istore_n 2, 1) := by decide +kernel
theorem dX12_four_3 : decode cX12_four 3 = .ok (.iload_n 2, 1) := by decide +kernel
theorem dX12_four_4 : decode cX12_four 4 = .ok (.ifCond .lt 35, 3) := by decide +kernel
theorem dX12_four_7 : decode cX12_four 7 = .ok (.aload_n 0, 1) := by decide +kernel
theorem dX12_four_8 : decode cX12_four 8 = .ok (.getfield 19, 3) := by decide +kernel
theorem dX12_four_11 : decode cX12_four 11 = .ok (.aload_n 0, 1) := by decide +kernel
theorem dX12_four_12 : decode cX12_four 12 = .ok (.getfield 85, 3) := by decide +kernel
theorem dX12_four_15 : decode cX12_four 15 = .ok (.iload_n 1, 1) := by decide +kernel
theorem dX12_four_16 : decode cX12_four 16 = .ok (.iload_n 2, 1) := by decide +kernel
theorem dX12_four_17 : decode cX12_four 17 = .ok (.ishr, 1) := by decide +kernel
theorem dX12_four_18 : decode cX12_four 18 = .ok (.sipush 255, 3) := by decide +kernel
theorem dX12_four_21 : decode cX12_four 21 = .ok (.iand, 1) := by decide +kernel
theorem dX12_four_22 : decode cX12_four 22 = .ok (.iastore, 1) := by decide +kernel
theorem dX12_four_23 : decode cX12_four 23 = .ok (.aload_n 0, 1) := by decide +kernel
theorem dX12_four_24 : decode cX12_four 24 = .ok (.dup, 1) := by decide +kernel
theorem dX12_four_25 : decode cX12_four 25 = .ok (.getfield 85, 3) := by decide +kernel
theorem dX12_four_28 : decode cX12_four 28 = .ok (.iconst 1, 1) := by decide +kernel
theorem dX12_four_29 : decode cX12_four 29 = .ok (.iadd, 1) := by decide +kernel
theorem dX12_four_30 : decode cX12_four 30 = .ok (.putfield 85, 3) := by decide +kernel
theorem dX12_four_33 : decode cX12_four 33 = .ok (.iinc 2 (-8), 3) := by decide +kernel
theorem dX12_four_36 : decode cX12_four 36 = .ok (.goto (-33), 3) := by decide +kernel
theorem dX12_four_39 : decode cX12_four 39 = .ok (.return_, 1) := by decide +kernel
theorem dX12_feed_0 : decode cX12_feed 0 = .ok (.aload_n 0, 1) := by decide +kernel
theorem dX12_feed_1 : decode cX12_feed 1 = .ok (.getfield 85, 3) := by decide +kernel
theorem dX12_feed_4 : decode cX12_feed 4 = .ok (.bipush 20, 2) := by decide +kernel
theorem dX12_feed_6 : decode cX12_feed 6 = .ok (.iadd, 1) := by decide +kernel
theorem dX12_feed_7 : decode cX12_feed 7 = .ok (.sipush 300, 3) := by decide +kernel
theorem dX12_feed_10 : decode cX12_feed 10 = .ok (.if_icmp .le 5, 3) := by decide +kernel
theorem dX12_feed_13 : decode cX12_feed 13 = .ok (.iconst (-1), 1) := by decide +kernel
theorem dX12_feed_14 : decode cX12_feed 14 = .ok (.ireturn, 1) := by decide +kernel
theorem dX12_feed_15 : decode cX12_feed 15 = .ok (.aload_n 0, 1) := by decide +kernel
theorem dX12_feed_16 : decode cX12_feed 16 = .ok (.iload_n 1, 1) := by decide +kernel
theorem dX12_feed_17 : decode cX12_feed 17 = .ok (.invokevirtual 88, 3) := by decide +kernel
theorem dX12_feed_20 : decode cX12_feed 20 = .ok (.aload_n 0, 1) := by decide +kernel
theorem dX12_feed_21 : decode cX12_feed 21 = .ok (.iload_n 2, 1) := by decide +kernel
theorem dX12_feed_22 : decode cX12_feed 22 = .ok (.invokevirtual 88, 3) := by decide +kernel
theorem dX12_feed_25 : decode cX12_feed 25 = .ok (.aload_n 0, 1) := by decide +kernel
theorem dX12_feed_26 : decode cX12_feed 26 = .ok (.iload_n 3, 1) := by decide +kernel
theorem dX12_feed_27 : decode cX12_feed 27 = .ok (.invokevirtual 88, 3) := by decide +kernel
theorem dX12_feed_30 : decode cX12_feed 30 = .ok (.aload_n 0, 1) := by decide +kernel
theorem dX12_feed_31 : decode cX12_feed 31 = .ok (.iload 4, 2) := by decide +kernel
theorem dX12_feed_33 : decode cX12_feed 33 = .ok (.invokevirtual 88, 3) := by decide +kernel
theorem dX12_feed_36 : decode cX12_feed 36 = .ok (.aload_n 0, 1) := by decide +kernel
theorem dX12_feed_37 : decode cX12_feed 37 = .ok (.iload 5, 2) := by decide +kernel
theorem dX12_feed_39 : decode cX12_feed 39 = .ok (.invokevirtual 88, 3) := by decide +kernel
theorem dX12_feed_42 : decode cX12_feed 42 = .ok (.aload_n 0, 1) := by decide +kernel
theorem dX12_feed_43 : decode cX12_feed 43 = .ok (.getfield 85, 3) := by decide +kernel
theorem dX12_feed_46 : decode cX12_feed 46 = .ok (.ireturn, 1) := by decide +kernel
theorem dX12_end_0 : decode cX12_end 0 = .ok (.iload_n 1, 1) := by decide +kernel
theorem dX12_end_1 : decode cX12_end 1 = .ok (.iconst 0, 1) := by decide +kernel
theorem dX12_end_2 : decode cX12_end 2 = .ok (.aload_n 0, 1) := by decide +kernel
theorem dX12_end_3 : decode cX12_end 3 = .ok (.getfield 85, 3) := by decide +kernel
theorem dX12_end_6 : decode cX12_end 6 = .ok (.invokestatic 60, 3) := by decide +kernel
theorem dX12_end_9 : decode cX12_end 9 = .ok (.ifCond .ne 5, 3) := by decide +kernel
theorem dX12_end_12 : decode cX12_end 12 = .ok (.iconst (-1), 1) := by decide +kernel
theorem dX12_end_13 : decode cX12_end 13 = .ok (.ireturn, 1) := by decide +kernel
theorem dX12_end_14 : decode cX12_end 14 = .ok (.aload_n 0, 1) := by decide +kernel
theorem dX12_end_15 : decode cX12_end 15 = .ok (.iload_n 1, 1) := by decide +kernel
theorem dX12_end_16 : decode cX12_end 16 = .ok (.putfield 85, 3) := by decide +kernel
theorem dX12_end_19 : decode cX12_end 19 = .ok (.iload_n 1, 1) := by decide +kernel
theorem dX12_end_20 : decode cX12_end 20 = .ok (.ireturn, 1) := by decide +kernel
theorem dX12_byteAt_0 : decode cX12_byteAt 0 = .ok (.iload_n 1, 1) := by decide +kernel
theorem dX12_byteAt_1 : decode cX12_byteAt 1 = .ok (.aload_n 0, 1) := by decide +kernel
theorem dX12_byteAt_2 : decode cX12_byteAt 2 = .ok (.getfield 85, 3) := by decide +kernel
theorem dX12_byteAt_5 : decode cX12_byteAt 5 = .ok (.if_icmp .ge 12, 3) := by decide +kernel
theorem dX12_byteAt_8 : decode cX12_byteAt 8 = .ok (.aload_n 0, 1) := by decide +kernel
theorem dX12_byteAt_9 : decode cX12_byteAt 9 = .ok (.getfield 19, 3) := by decide +kernel
theorem dX12_byteAt_12 : decode cX12_byteAt 12 = .ok (.iload_n 1, 1) := by decide +kernel
theorem dX12_byteAt_13 : decode cX12_byteAt 13 = .ok (.iaload, 1) := by decide +kernel
theorem dX12_byteAt_14 : decode cX12_byteAt 14 = .ok (.goto 4, 3) := by decide +kernel
theorem dX12_byteAt_17 : decode cX12_byteAt 17 = .ok (.iconst (-1), 1) := by decide +kernel
theorem dX12_byteAt_18 : decode cX12_byteAt 18 = .ok (.ireturn, 1) := by decide +kernel
theorem dX12_isLetterByte_0 : decode cX12_isLetterByte 0 = .ok (.iload_n 0, 1) := by decide +kernel
theorem dX12_isLetterByte_1 : decode cX12_isLetterByte 1 = .ok (.bipush 97, 2) := by decide +kernel
theorem dX12_isLetterByte_3 : decode cX12_isLetterByte 3 = .ok (.if_icmp .lt 9, 3) := by decide +kernel
theorem dX12_isLetterByte_6 : decode cX12_isLetterByte 6 = .ok (.iload_n 0, 1) := by decide +kernel
theorem dX12_isLetterByte_7 : decode cX12_isLetterByte 7 = .ok (.bipush 122, 2) := by decide +kernel
theorem dX12_isLetterByte_9 : decode cX12_isLetterByte 9 = .ok (.if_icmp .le 15, 3) := by decide +kernel
theorem dX12_isLetterByte_12 : decode cX12_isLetterByte 12 = .ok (.iload_n 0, 1) := by decide +kernel
theorem dX12_isLetterByte_13 : decode cX12_isLetterByte 13 = .ok (.bipush 65, 2) := by decide +kernel
theorem dX12_isLetterByte_15 : decode cX12_isLetterByte 15 = .ok (.if_icmp .lt 13, 3) := by decide +kernel
theorem dX12_isLetterByte_18 : decode cX12_isLetterByte 18 = .ok (.iload_n 0, 1) := by decide +kernel
theorem dX12_isLetterByte_19 : decode cX12_isLetterByte 19 = .ok (.bipush 90, 2) := by decide +kernel
theorem dX12_isLetterByte_21 : decode cX12_isLetterByte 21 = .ok (.if_icmp .gt 7, 3) := by decide +kernel
theorem dX12_isLetterByte_24 : decode cX12_isLetterByte 24 = .ok (.iconst 1, 1) := by decide +kernel
theorem dX12_isLetterByte_25 : decode cX12_isLetterByte 25 = .ok (.goto 4, 3) := by decide +kernel
theorem dX12_isLetterByte_28 : decode cX12_isLetterByte 28 = .ok (.iconst 0, 1) := by decide +kernel
theorem dX12_isLetterByte_29 : decode cX12_isLetterByte 29 = .ok (.ireturn, 1) := by decide +kernel
theorem dX12_isFigure_0 : decode cX12_isFigure 0 = .ok (.iload_n 0, 1) := by decide +kernel
theorem dX12_isFigure_1 : decode cX12_isFigure 1 = .ok (.bipush 48, 2) := by decide +kernel
theorem dX12_isFigure_3 : decode cX12_isFigure 3 = .ok (.if_icmp .lt 13, 3) := by decide +kernel
theorem dX12_isFigure_6 : decode cX12_isFigure 6 = .ok (.iload_n 0, 1) := by decide +kernel
theorem dX12_isFigure_7 : decode cX12_isFigure 7 = .ok (.bipush 57, 2) := by decide +kernel
theorem dX12_isFigure_9 : decode cX12_isFigure 9 = .ok (.if_icmp .gt 7, 3) := by decide +kernel
theorem dX12_isFigure_12 : decode cX12_isFigure 12 = .ok (.iconst 1, 1) := by decide +kernel
theorem dX12_isFigure_13 : decode cX12_isFigure 13 = .ok (.goto 4, 3) := by decide +kernel
theorem dX12_isFigure_16 : decode cX12_isFigure 16 = .ok (.iconst 0, 1) := by decide +kernel
theorem dX12_isFigure_17 : decode cX12_isFigure 17 = .ok (.ireturn, 1) := by decide +kernel
theorem dX12_isSign_0 : decode cX12_isSign 0 = .ok (.iload_n 0, 1) := by decide +kernel
theorem dX12_isSign_1 : decode cX12_isSign 1 = .ok (.tableswitch 129 35 62 #[127, 129, 129, 129, 129, 127, 127, 127, 127, 129, 127, 129, 127, 129, 129, 129, 129, 129, 129, 129, 129, 129, 129, 127, 127, 127, 127, 127], 127) := by decide +kernel
theorem dX12_isSign_128 : decode cX12_isSign 128 = .ok (.iconst 1, 1) := by decide +kernel
theorem dX12_isSign_129 : decode cX12_isSign 129 = .ok (.ireturn, 1) := by decide +kernel
theorem dX12_isSign_130 : decode cX12_isSign 130 = .ok (.iconst 0, 1) := by decide +kernel
theorem dX12_isSign_131 : decode cX12_isSign 131 = .ok (.ireturn, 1) := by decide +kernel
theorem dX12_nextToken_0 : decode cX12_nextToken 0 = .ok (.aload_n 0, 1) := by decide +kernel
theorem dX12_nextToken_1 : decode cX12_nextToken 1 = .ok (.aload_n 0, 1) := by decide +kernel
theorem dX12_nextToken_2 : decode cX12_nextToken 2 = .ok (.getfield 92, 3) := by decide +kernel
theorem dX12_nextToken_5 : decode cX12_nextToken 5 = .ok (.invokevirtual 95, 3) := by decide +kernel
theorem dX12_nextToken_8 : decode cX12_nextToken 8 = .ok (.bipush 32, 2) := by decide +kernel
theorem dX12_nextToken_10 : decode cX12_nextToken 10 = .ok (.if_icmp .eq 16, 3) := by decide +kernel
theorem dX12_nextToken_13 : decode cX12_nextToken 13 = .ok (.aload_n 0, 1) := by decide +kernel
theorem dX12_nextToken_14 : decode cX12_nextToken 14 = .ok (.aload_n 0, 1) := by decide +kernel
theorem dX12_nextToken_15 : decode cX12_nextToken 15 = .ok (.getfield 92, 3) := by decide +kernel
theorem dX12_nextToken_18 : decode cX12_nextToken 18 = .ok (.invokevirtual 95, 3) := by decide +kernel
theorem dX12_nextToken_21 : decode cX12_nextToken 21 = .ok (.bipush 10, 2) := by decide +kernel
theorem dX12_nextToken_23 : decode cX12_nextToken 23 = .ok (.if_icmp .ne 16, 3) := by decide +kernel
theorem dX12_nextToken_26 : decode cX12_nextToken 26 = .ok (.aload_n 0, 1) := by decide +kernel
theorem dX12_nextToken_27 : decode cX12_nextToken 27 = .ok (.dup, 1) := by decide +kernel
theorem dX12_nextToken_28 : decode cX12_nextToken 28 = .ok (.getfield 92, 3) := by decide +kernel
theorem dX12_nextToken_31 : decode cX12_nextToken 31 = .ok (.iconst 1, 1) := by decide +kernel
theorem dX12_nextToken_32 : decode cX12_nextToken 32 = .ok (.iadd, 1) := by decide +kernel
theorem dX12_nextToken_33 : decode cX12_nextToken 33 = .ok (.putfield 92, 3) := by decide +kernel
theorem dX12_nextToken_36 : decode cX12_nextToken 36 = .ok (.goto (-36), 3) := by decide +kernel
theorem dX12_nextToken_39 : decode cX12_nextToken 39 = .ok (.aload_n 0, 1) := by decide +kernel
theorem dX12_nextToken_40 : decode cX12_nextToken 40 = .ok (.aload_n 0, 1) := by decide +kernel
theorem dX12_nextToken_41 : decode cX12_nextToken 41 = .ok (.getfield 92, 3) := by decide +kernel
theorem dX12_nextToken_44 : decode cX12_nextToken 44 = .ok (.putfield 99, 3) := by decide +kernel
theorem dX12_nextToken_47 : decode cX12_nextToken 47 = .ok (.aload_n 0, 1) := by decide +kernel
theorem dX12_nextToken_48 : decode cX12_nextToken 48 = .ok (.aload_n 0, 1) := by decide +kernel
theorem dX12_nextToken_49 : decode cX12_nextToken 49 = .ok (.getfield 92, 3) := by decide +kernel
theorem dX12_nextToken_52 : decode cX12_nextToken 52 = .ok (.invokevirtual 95, 3) := by decide +kernel
theorem dX12_nextToken_55 : decode cX12_nextToken 55 = .ok (.istore_n 1, 1) := by decide +kernel
theorem dX12_nextToken_56 : decode cX12_nextToken 56 = .ok (.iload_n 1, 1) := by decide +kernel
theorem dX12_nextToken_57 : decode cX12_nextToken 57 = .ok (.ifCond .ge 11, 3) := by decide +kernel
theorem dX12_nextToken_60 : decode cX12_nextToken 60 = .ok (.aload_n 0, 1) := by decide +kernel
theorem dX12_nextToken_61 : decode cX12_nextToken 61 = .ok (.iconst 0, 1) := by decide +kernel
theorem dX12_nextToken_62 : decode cX12_nextToken 62 = .ok (.putfield 102, 3) := by decide +kernel
theorem dX12_nextToken_65 : decode cX12_nextToken 65 = .ok (.goto 245, 3) := by decide +kernel
theorem dX12_nextToken_68 : decode cX12_nextToken 68 = .ok (.iload_n 1, 1) := by decide +kernel
theorem dX12_nextToken_69 : decode cX12_nextToken 69 = .ok (.invokestatic 105, 3) := by decide +kernel
theorem dX12_nextToken_72 : decode cX12_nextToken 72 = .ok (.ifCond .eq 79, 3) := by decide +kernel
theorem dX12_nextToken_75 : decode cX12_nextToken 75 = .ok (.aload_n 0, 1) := by decide +kernel
theorem dX12_nextToken_76 : decode cX12_nextToken 76 = .ok (.iconst 1, 1) := by decide +kernel
theorem dX12_nextToken_77 : decode cX12_nextToken 77 = .ok (.putfield 102, 3) := by decide +kernel
theorem dX12_nextToken_80 : decode cX12_nextToken 80 = .ok (.aload_n 0, 1) := by decide +kernel
theorem dX12_nextToken_81 : decode cX12_nextToken 81 = .ok (.iconst 0, 1) := by decide +kernel
theorem dX12_nextToken_82 : decode cX12_nextToken 82 = .ok (.putfield 108, 3) := by decide +kernel
theorem dX12_nextToken_85 : decode cX12_nextToken 85 = .ok (.aload_n 0, 1) := by decide +kernel
theorem dX12_nextToken_86 : decode cX12_nextToken 86 = .ok (.aload_n 0, 1) := by decide +kernel
theorem dX12_nextToken_87 : decode cX12_nextToken 87 = .ok (.getfield 92, 3) := by decide +kernel
theorem dX12_nextToken_90 : decode cX12_nextToken 90 = .ok (.invokevirtual 95, 3) := by decide +kernel
theorem dX12_nextToken_93 : decode cX12_nextToken 93 = .ok (.invokestatic 105, 3) := by decide +kernel
theorem dX12_nextToken_96 : decode cX12_nextToken 96 = .ok (.ifCond .eq 214, 3) := by decide +kernel
theorem dX12_nextToken_99 : decode cX12_nextToken 99 = .ok (.aload_n 0, 1) := by decide +kernel
theorem dX12_nextToken_100 : decode cX12_nextToken 100 = .ok (.aload_n 0, 1) := by decide +kernel
theorem dX12_nextToken_101 : decode cX12_nextToken 101 = .ok (.getfield 108, 3) := by decide +kernel
theorem dX12_nextToken_104 : decode cX12_nextToken 104 = .ok (.ldc 111, 2) := by decide +kernel
theorem dX12_nextToken_106 : decode cX12_nextToken 106 = .ok (.if_icmp .le 10, 3) := by decide +kernel
theorem dX12_nextToken_109 : decode cX12_nextToken 109 = .ok (.aload_n 0, 1) := by decide +kernel
theorem dX12_nextToken_110 : decode cX12_nextToken 110 = .ok (.getfield 108, 3) := by decide +kernel
theorem dX12_nextToken_113 : decode cX12_nextToken 113 = .ok (.goto 22, 3) := by decide +kernel
theorem dX12_nextToken_116 : decode cX12_nextToken 116 = .ok (.bipush 10, 2) := by decide +kernel
theorem dX12_nextToken_118 : decode cX12_nextToken 118 = .ok (.aload_n 0, 1) := by decide +kernel
theorem dX12_nextToken_119 : decode cX12_nextToken 119 = .ok (.getfield 108, 3) := by decide +kernel
theorem dX12_nextToken_122 : decode cX12_nextToken 122 = .ok (.imul, 1) := by decide +kernel
theorem dX12_nextToken_123 : decode cX12_nextToken 123 = .ok (.aload_n 0, 1) := by decide +kernel
theorem dX12_nextToken_124 : decode cX12_nextToken 124 = .ok (.aload_n 0, 1) := by decide +kernel
theorem dX12_nextToken_125 : decode cX12_nextToken 125 = .ok (.getfield 92, 3) := by decide +kernel
theorem dX12_nextToken_128 : decode cX12_nextToken 128 = .ok (.invokevirtual 95, 3) := by decide +kernel
theorem dX12_nextToken_131 : decode cX12_nextToken 131 = .ok (.iadd, 1) := by decide +kernel
theorem dX12_nextToken_132 : decode cX12_nextToken 132 = .ok (.bipush 48, 2) := by decide +kernel
theorem dX12_nextToken_134 : decode cX12_nextToken 134 = .ok (.isub, 1) := by decide +kernel
theorem dX12_nextToken_135 : decode cX12_nextToken 135 = .ok (.putfield 108, 3) := by decide +kernel
theorem dX12_nextToken_138 : decode cX12_nextToken 138 = .ok (.aload_n 0, 1) := by decide +kernel
theorem dX12_nextToken_139 : decode cX12_nextToken 139 = .ok (.dup, 1) := by decide +kernel
theorem dX12_nextToken_140 : decode cX12_nextToken 140 = .ok (.getfield 92, 3) := by decide +kernel
theorem dX12_nextToken_143 : decode cX12_nextToken 143 = .ok (.iconst 1, 1) := by decide +kernel
theorem dX12_nextToken_144 : decode cX12_nextToken 144 = .ok (.iadd, 1) := by decide +kernel
theorem dX12_nextToken_145 : decode cX12_nextToken 145 = .ok (.putfield 92, 3) := by decide +kernel
theorem dX12_nextToken_148 : decode cX12_nextToken 148 = .ok (.goto (-63), 3) := by decide +kernel
theorem dX12_nextToken_151 : decode cX12_nextToken 151 = .ok (.iload_n 1, 1) := by decide +kernel
theorem dX12_nextToken_152 : decode cX12_nextToken 152 = .ok (.invokestatic 112, 3) := by decide +kernel
theorem dX12_nextToken_155 : decode cX12_nextToken 155 = .ok (.ifCond .eq 79, 3) := by decide +kernel
theorem dX12_nextToken_158 : decode cX12_nextToken 158 = .ok (.aload_n 0, 1) := by decide +kernel
theorem dX12_nextToken_159 : decode cX12_nextToken 159 = .ok (.iconst 2, 1) := by decide +kernel
theorem dX12_nextToken_160 : decode cX12_nextToken 160 = .ok (.putfield 102, 3) := by decide +kernel
theorem dX12_nextToken_163 : decode cX12_nextToken 163 = .ok (.aload_n 0, 1) := by decide +kernel
theorem dX12_nextToken_164 : decode cX12_nextToken 164 = .ok (.lconst 0, 1) := by decide +kernel
theorem dX12_nextToken_165 : decode cX12_nextToken 165 = .ok (.putfield 115, 3) := by decide +kernel
theorem dX12_nextToken_168 : decode cX12_nextToken 168 = .ok (.aload_n 0, 1) := by decide +kernel
theorem dX12_nextToken_169 : decode cX12_nextToken 169 = .ok (.aload_n 0, 1) := by decide +kernel
theorem dX12_nextToken_170 : decode cX12_nextToken 170 = .ok (.getfield 92, 3) := by decide +kernel
theorem dX12_nextToken_173 : decode cX12_nextToken 173 = .ok (.invokevirtual 95, 3) := by decide +kernel
theorem dX12_nextToken_176 : decode cX12_nextToken 176 = .ok (.invokestatic 112, 3) := by decide +kernel
theorem dX12_nextToken_179 : decode cX12_nextToken 179 = .ok (.ifCond .eq 131, 3) := by decide +kernel
theorem dX12_nextToken_182 : decode cX12_nextToken 182 = .ok (.aload_n 0, 1) := by decide +kernel
theorem dX12_nextToken_183 : decode cX12_nextToken 183 = .ok (.aload_n 0, 1) := by decide +kernel
theorem dX12_nextToken_184 : decode cX12_nextToken 184 = .ok (.getfield 115, 3) := by decide +kernel
theorem dX12_nextToken_187 : decode cX12_nextToken 187 = .ok (.bipush 48, 2) := by decide +kernel
theorem dX12_nextToken_189 : decode cX12_nextToken 189 = .ok (.lshr, 1) := by decide +kernel
theorem dX12_nextToken_190 : decode cX12_nextToken 190 = .ok (.lconst 0, 1) := by decide +kernel
theorem dX12_nextToken_191 : decode cX12_nextToken 191 = .ok (.lcmp, 1) := by decide +kernel
theorem dX12_nextToken_192 : decode cX12_nextToken 192 = .ok (.ifCond .eq 9, 3) := by decide +kernel
theorem dX12_nextToken_195 : decode cX12_nextToken 195 = .ok (.ldc2_w 119, 3) := by decide +kernel
theorem dX12_nextToken_198 : decode cX12_nextToken 198 = .ok (.goto 20, 3) := by decide +kernel
theorem dX12_nextToken_201 : decode cX12_nextToken 201 = .ok (.aload_n 0, 1) := by decide +kernel
theorem dX12_nextToken_202 : decode cX12_nextToken 202 = .ok (.getfield 115, 3) := by decide +kernel
theorem dX12_nextToken_205 : decode cX12_nextToken 205 = .ok (.bipush 8, 2) := by decide +kernel
theorem dX12_nextToken_207 : decode cX12_nextToken 207 = .ok (.lshl, 1) := by decide +kernel
theorem dX12_nextToken_208 : decode cX12_nextToken 208 = .ok (.aload_n 0, 1) := by decide +kernel
theorem dX12_nextToken_209 : decode cX12_nextToken 209 = .ok (.aload_n 0, 1) := by decide +kernel
theorem dX12_nextToken_210 : decode cX12_nextToken 210 = .ok (.getfield 92, 3) := by decide +kernel
theorem dX12_nextToken_213 : decode cX12_nextToken 213 = .ok (.invokevirtual 95, 3) := by decide +kernel
theorem dX12_nextToken_216 : decode cX12_nextToken 216 = .ok (.i2l, 1) := by decide +kernel
theorem dX12_nextToken_217 : decode cX12_nextToken 217 = .ok (.lor, 1) := by decide +kernel
theorem dX12_nextToken_218 : decode cX12_nextToken 218 = .ok (.putfield 115, 3) := by decide +kernel
theorem dX12_nextToken_221 : decode cX12_nextToken 221 = .ok (.aload_n 0, 1) := by decide +kernel
theorem dX12_nextToken_222 : decode cX12_nextToken 222 = .ok (.dup, 1) := by decide +kernel
theorem dX12_nextToken_223 : decode cX12_nextToken 223 = .ok (.getfield 92, 3) := by decide +kernel
theorem dX12_nextToken_226 : decode cX12_nextToken 226 = .ok (.iconst 1, 1) := by decide +kernel
theorem dX12_nextToken_227 : decode cX12_nextToken 227 = .ok (.iadd, 1) := by decide +kernel
theorem dX12_nextToken_228 : decode cX12_nextToken 228 = .ok (.putfield 92, 3) := by decide +kernel
theorem dX12_nextToken_231 : decode cX12_nextToken 231 = .ok (.goto (-63), 3) := by decide +kernel
theorem dX12_nextToken_234 : decode cX12_nextToken 234 = .ok (.aload_n 0, 1) := by decide +kernel
theorem dX12_nextToken_235 : decode cX12_nextToken 235 = .ok (.iload_n 1, 1) := by decide +kernel
theorem dX12_nextToken_236 : decode cX12_nextToken 236 = .ok (.invokestatic 121, 3) := by decide +kernel
theorem dX12_nextToken_239 : decode cX12_nextToken 239 = .ok (.ifCond .eq 7, 3) := by decide +kernel
theorem dX12_nextToken_242 : decode cX12_nextToken 242 = .ok (.iload_n 1, 1) := by decide +kernel
theorem dX12_nextToken_243 : decode cX12_nextToken 243 = .ok (.goto 4, 3) := by decide +kernel
theorem dX12_nextToken_246 : decode cX12_nextToken 246 = .ok (.iconst 3, 1) := by decide +kernel
theorem dX12_nextToken_247 : decode cX12_nextToken 247 = .ok (.putfield 102, 3) := by decide +kernel
theorem dX12_nextToken_250 : decode cX12_nextToken 250 = .ok (.aload_n 0, 1) := by decide +kernel
theorem dX12_nextToken_251 : decode cX12_nextToken 251 = .ok (.dup, 1) := by decide +kernel
theorem dX12_nextToken_252 : decode cX12_nextToken 252 = .ok (.getfield 92, 3) := by decide +kernel
theorem dX12_nextToken_255 : decode cX12_nextToken 255 = .ok (.iconst 1, 1) := by decide +kernel
theorem dX12_nextToken_256 : decode cX12_nextToken 256 = .ok (.iadd, 1) := by decide +kernel
theorem dX12_nextToken_257 : decode cX12_nextToken 257 = .ok (.putfield 92, 3) := by decide +kernel
theorem dX12_nextToken_260 : decode cX12_nextToken 260 = .ok (.iload_n 1, 1) := by decide +kernel
theorem dX12_nextToken_261 : decode cX12_nextToken 261 = .ok (.bipush 60, 2) := by decide +kernel
theorem dX12_nextToken_263 : decode cX12_nextToken 263 = .ok (.if_icmp .eq 9, 3) := by decide +kernel
theorem dX12_nextToken_266 : decode cX12_nextToken 266 = .ok (.iload_n 1, 1) := by decide +kernel
theorem dX12_nextToken_267 : decode cX12_nextToken 267 = .ok (.bipush 62, 2) := by decide +kernel
theorem dX12_nextToken_269 : decode cX12_nextToken 269 = .ok (.if_icmp .ne 41, 3) := by decide +kernel
theorem dX12_nextToken_272 : decode cX12_nextToken 272 = .ok (.aload_n 0, 1) := by decide +kernel
theorem dX12_nextToken_273 : decode cX12_nextToken 273 = .ok (.aload_n 0, 1) := by decide +kernel
theorem dX12_nextToken_274 : decode cX12_nextToken 274 = .ok (.getfield 92, 3) := by decide +kernel
theorem dX12_nextToken_277 : decode cX12_nextToken 277 = .ok (.invokevirtual 95, 3) := by decide +kernel
theorem dX12_nextToken_280 : decode cX12_nextToken 280 = .ok (.bipush 61, 2) := by decide +kernel
theorem dX12_nextToken_282 : decode cX12_nextToken 282 = .ok (.if_icmp .ne 28, 3) := by decide +kernel
theorem dX12_nextToken_285 : decode cX12_nextToken 285 = .ok (.aload_n 0, 1) := by decide +kernel
theorem dX12_nextToken_286 : decode cX12_nextToken 286 = .ok (.iload_n 1, 1) := by decide +kernel
theorem dX12_nextToken_287 : decode cX12_nextToken 287 = .ok (.bipush 60, 2) := by decide +kernel
theorem dX12_nextToken_289 : decode cX12_nextToken 289 = .ok (.if_icmp .ne 7, 3) := by decide +kernel
theorem dX12_nextToken_292 : decode cX12_nextToken 292 = .ok (.iconst 4, 1) := by decide +kernel
theorem dX12_nextToken_293 : decode cX12_nextToken 293 = .ok (.goto 4, 3) := by decide +kernel
theorem dX12_nextToken_296 : decode cX12_nextToken 296 = .ok (.iconst 5, 1) := by decide +kernel
theorem dX12_nextToken_297 : decode cX12_nextToken 297 = .ok (.putfield 102, 3) := by decide +kernel
theorem dX12_nextToken_300 : decode cX12_nextToken 300 = .ok (.aload_n 0, 1) := by decide +kernel
theorem dX12_nextToken_301 : decode cX12_nextToken 301 = .ok (.dup, 1) := by decide +kernel
theorem dX12_nextToken_302 : decode cX12_nextToken 302 = .ok (.getfield 92, 3) := by decide +kernel
theorem dX12_nextToken_305 : decode cX12_nextToken 305 = .ok (.iconst 1, 1) := by decide +kernel
theorem dX12_nextToken_306 : decode cX12_nextToken 306 = .ok (.iadd, 1) := by decide +kernel
theorem dX12_nextToken_307 : decode cX12_nextToken 307 = .ok (.putfield 92, 3) := by decide +kernel
theorem dX12_nextToken_310 : decode cX12_nextToken 310 = .ok (.return_, 1) := by decide +kernel
theorem dX12_w2_0 : decode cX12_w2 0 = .ok (.iload_n 0, 1) := by decide +kernel
theorem dX12_w2_1 : decode cX12_w2 1 = .ok (.i2l, 1) := by decide +kernel
theorem dX12_w2_2 : decode cX12_w2 2 = .ok (.bipush 8, 2) := by decide +kernel
theorem dX12_w2_4 : decode cX12_w2 4 = .ok (.lshl, 1) := by decide +kernel
theorem dX12_w2_5 : decode cX12_w2 5 = .ok (.iload_n 1, 1) := by decide +kernel
theorem dX12_w2_6 : decode cX12_w2 6 = .ok (.i2l, 1) := by decide +kernel
theorem dX12_w2_7 : decode cX12_w2 7 = .ok (.lor, 1) := by decide +kernel
theorem dX12_w2_8 : decode cX12_w2 8 = .ok (.lreturn, 1) := by decide +kernel
theorem dX12_w3_0 : decode cX12_w3 0 = .ok (.iload_n 0, 1) := by decide +kernel
theorem dX12_w3_1 : decode cX12_w3 1 = .ok (.iload_n 1, 1) := by decide +kernel
theorem dX12_w3_2 : decode cX12_w3 2 = .ok (.invokestatic 124, 3) := by decide +kernel
theorem dX12_w3_5 : decode cX12_w3 5 = .ok (.bipush 8, 2) := by decide +kernel
theorem dX12_w3_7 : decode cX12_w3 7 = .ok (.lshl, 1) := by decide +kernel
theorem dX12_w3_8 : decode cX12_w3 8 = .ok (.iload_n 2, 1) := by decide +kernel
theorem dX12_w3_9 : decode cX12_w3 9 = .ok (.i2l, 1) := by decide +kernel
theorem dX12_w3_10 : decode cX12_w3 10 = .ok (.lor, 1) := by decide +kernel
theorem dX12_w3_11 : decode cX12_w3 11 = .ok (.lreturn, 1) := by decide +kernel
theorem dX12_w4_0 : decode cX12_w4 0 = .ok (.iload_n 0, 1) := by decide +kernel
theorem dX12_w4_1 : decode cX12_w4 1 = .ok (.iload_n 1, 1) := by decide +kernel
theorem dX12_w4_2 : decode cX12_w4 2 = .ok (.iload_n 2, 1) := by decide +kernel
theorem dX12_w4_3 : decode cX12_w4 3 = .ok (.invokestatic 128, 3) := by decide +kernel
theorem dX12_w4_6 : decode cX12_w4 6 = .ok (.bipush 8, 2) := by decide +kernel
theorem dX12_w4_8 : decode cX12_w4 8 = .ok (.lshl, 1) := by decide +kernel
theorem dX12_w4_9 : decode cX12_w4 9 = .ok (.iload_n 3, 1) := by decide +kernel
theorem dX12_w4_10 : decode cX12_w4 10 = .ok (.i2l, 1) := by decide +kernel
theorem dX12_w4_11 : decode cX12_w4 11 = .ok (.lor, 1) := by decide +kernel
theorem dX12_w4_12 : decode cX12_w4 12 = .ok (.lreturn, 1) := by decide +kernel
theorem dX12_w5_0 : decode cX12_w5 0 = .ok (.iload_n 0, 1) := by decide +kernel
theorem dX12_w5_1 : decode cX12_w5 1 = .ok (.iload_n 1, 1) := by decide +kernel
theorem dX12_w5_2 : decode cX12_w5 2 = .ok (.iload_n 2, 1) := by decide +kernel
theorem dX12_w5_3 : decode cX12_w5 3 = .ok (.iload_n 3, 1) := by decide +kernel
theorem dX12_w5_4 : decode cX12_w5 4 = .ok (.invokestatic 132, 3) := by decide +kernel
theorem dX12_w5_7 : decode cX12_w5 7 = .ok (.bipush 8, 2) := by decide +kernel
theorem dX12_w5_9 : decode cX12_w5 9 = .ok (.lshl, 1) := by decide +kernel
theorem dX12_w5_10 : decode cX12_w5 10 = .ok (.iload 4, 2) := by decide +kernel
theorem dX12_w5_12 : decode cX12_w5 12 = .ok (.i2l, 1) := by decide +kernel
theorem dX12_w5_13 : decode cX12_w5 13 = .ok (.lor, 1) := by decide +kernel
theorem dX12_w5_14 : decode cX12_w5 14 = .ok (.lreturn, 1) := by decide +kernel
theorem dX12_w6_0 : decode cX12_w6 0 = .ok (.iload_n 0, 1) := by decide +kernel
theorem dX12_w6_1 : decode cX12_w6 1 = .ok (.iload_n 1, 1) := by decide +kernel
theorem dX12_w6_2 : decode cX12_w6 2 = .ok (.iload_n 2, 1) := by decide +kernel
theorem dX12_w6_3 : decode cX12_w6 3 = .ok (.iload_n 3, 1) := by decide +kernel
theorem dX12_w6_4 : decode cX12_w6 4 = .ok (.iload 4, 2) := by decide +kernel
theorem dX12_w6_6 : decode cX12_w6 6 = .ok (.invokestatic 136, 3) := by decide +kernel
theorem dX12_w6_9 : decode cX12_w6 9 = .ok (.bipush 8, 2) := by decide +kernel
theorem dX12_w6_11 : decode cX12_w6 11 = .ok (.lshl, 1) := by decide +kernel
theorem dX12_w6_12 : decode cX12_w6 12 = .ok (.iload 5, 2) := by decide +kernel
theorem dX12_w6_14 : decode cX12_w6 14 = .ok (.i2l, 1) := by decide +kernel
theorem dX12_w6_15 : decode cX12_w6 15 = .ok (.lor, 1) := by decide +kernel
theorem dX12_w6_16 : decode cX12_w6 16 = .ok (.lreturn, 1) := by decide +kernel
theorem dX12_isWord_0 : decode cX12_isWord 0 = .ok (.aload_n 0, 1) := by decide +kernel
theorem dX12_isWord_1 : decode cX12_isWord 1 = .ok (.getfield 102, 3) := by decide +kernel
theorem dX12_isWord_4 : decode cX12_isWord 4 = .ok (.iconst 2, 1) := by decide +kernel
theorem dX12_isWord_5 : decode cX12_isWord 5 = .ok (.if_icmp .ne 16, 3) := by decide +kernel
theorem dX12_isWord_8 : decode cX12_isWord 8 = .ok (.aload_n 0, 1) := by decide +kernel
theorem dX12_isWord_9 : decode cX12_isWord 9 = .ok (.getfield 115, 3) := by decide +kernel
theorem dX12_isWord_12 : decode cX12_isWord 12 = .ok (.lload_n 1, 1) := by decide +kernel
theorem dX12_isWord_13 : decode cX12_isWord 13 = .ok (.lcmp, 1) := by decide +kernel
theorem dX12_isWord_14 : decode cX12_isWord 14 = .ok (.ifCond .ne 7, 3) := by decide +kernel
theorem dX12_isWord_17 : decode cX12_isWord 17 = .ok (.iconst 1, 1) := by decide +kernel
theorem dX12_isWord_18 : decode cX12_isWord 18 = .ok (.goto 4, 3) := by decide +kernel
theorem dX12_isWord_21 : decode cX12_isWord 21 = .ok (.iconst 0, 1) := by decide +kernel
theorem dX12_isWord_22 : decode cX12_isWord 22 = .ok (.ireturn, 1) := by decide +kernel
theorem dX12_emit_0 : decode cX12_emit 0 = .ok (.aload_n 0, 1) := by decide +kernel
theorem dX12_emit_1 : decode cX12_emit 1 = .ok (.getfield 16, 3) := by decide +kernel
theorem dX12_emit_4 : decode cX12_emit 4 = .ok (.aload_n 0, 1) := by decide +kernel
theorem dX12_emit_5 : decode cX12_emit 5 = .ok (.getfield 140, 3) := by decide +kernel
theorem dX12_emit_8 : decode cX12_emit 8 = .ok (.bipush 97, 2) := by decide +kernel
theorem dX12_emit_10 : decode cX12_emit 10 = .ok (.iadd, 1) := by decide +kernel
theorem dX12_emit_11 : decode cX12_emit 11 = .ok (.iconst 2, 1) := by decide +kernel
theorem dX12_emit_12 : decode cX12_emit 12 = .ok (.aload_n 0, 1) := by decide +kernel
theorem dX12_emit_13 : decode cX12_emit 13 = .ok (.getfield 143, 3) := by decide +kernel
theorem dX12_emit_16 : decode cX12_emit 16 = .ok (.imul, 1) := by decide +kernel
theorem dX12_emit_17 : decode cX12_emit 17 = .ok (.iadd, 1) := by decide +kernel
theorem dX12_emit_18 : decode cX12_emit 18 = .ok (.iload_n 1, 1) := by decide +kernel
theorem dX12_emit_19 : decode cX12_emit 19 = .ok (.iastore, 1) := by decide +kernel
theorem dX12_emit_20 : decode cX12_emit 20 = .ok (.aload_n 0, 1) := by decide +kernel
theorem dX12_emit_21 : decode cX12_emit 21 = .ok (.getfield 16, 3) := by decide +kernel
theorem dX12_emit_24 : decode cX12_emit 24 = .ok (.aload_n 0, 1) := by decide +kernel
theorem dX12_emit_25 : decode cX12_emit 25 = .ok (.getfield 140, 3) := by decide +kernel
theorem dX12_emit_28 : decode cX12_emit 28 = .ok (.bipush 97, 2) := by decide +kernel
theorem dX12_emit_30 : decode cX12_emit 30 = .ok (.iadd, 1) := by decide +kernel
theorem dX12_emit_31 : decode cX12_emit 31 = .ok (.iconst 2, 1) := by decide +kernel
theorem dX12_emit_32 : decode cX12_emit 32 = .ok (.aload_n 0, 1) := by decide +kernel
theorem dX12_emit_33 : decode cX12_emit 33 = .ok (.getfield 143, 3) := by decide +kernel
theorem dX12_emit_36 : decode cX12_emit 36 = .ok (.imul, 1) := by decide +kernel
theorem dX12_emit_37 : decode cX12_emit 37 = .ok (.iadd, 1) := by decide +kernel
theorem dX12_emit_38 : decode cX12_emit 38 = .ok (.iconst 1, 1) := by decide +kernel
theorem dX12_emit_39 : decode cX12_emit 39 = .ok (.iadd, 1) := by decide +kernel
theorem dX12_emit_40 : decode cX12_emit 40 = .ok (.iload_n 2, 1) := by decide +kernel
theorem dX12_emit_41 : decode cX12_emit 41 = .ok (.iastore, 1) := by decide +kernel
theorem dX12_emit_42 : decode cX12_emit 42 = .ok (.aload_n 0, 1) := by decide +kernel
theorem dX12_emit_43 : decode cX12_emit 43 = .ok (.dup, 1) := by decide +kernel
theorem dX12_emit_44 : decode cX12_emit 44 = .ok (.getfield 143, 3) := by decide +kernel
theorem dX12_emit_47 : decode cX12_emit 47 = .ok (.iconst 1, 1) := by decide +kernel
theorem dX12_emit_48 : decode cX12_emit 48 = .ok (.iadd, 1) := by decide +kernel
theorem dX12_emit_49 : decode cX12_emit 49 = .ok (.putfield 143, 3) := by decide +kernel
theorem dX12_emit_52 : decode cX12_emit 52 = .ok (.return_, 1) := by decide +kernel
theorem dX12_isReserve_0 : decode cX12_isReserve 0 = .ok (.aload_n 0, 1) := by decide +kernel
theorem dX12_isReserve_1 : decode cX12_isReserve 1 = .ok (.getfield 102, 3) := by decide +kernel
theorem dX12_isReserve_4 : decode cX12_isReserve 4 = .ok (.iconst 2, 1) := by decide +kernel
theorem dX12_isReserve_5 : decode cX12_isReserve 5 = .ok (.if_icmp .ne 124, 3) := by decide +kernel
theorem dX12_isReserve_8 : decode cX12_isReserve 8 = .ok (.aload_n 0, 1) := by decide +kernel
theorem dX12_isReserve_9 : decode cX12_isReserve 9 = .ok (.getfield 92, 3) := by decide +kernel
theorem dX12_isReserve_12 : decode cX12_isReserve 12 = .ok (.aload_n 0, 1) := by decide +kernel
theorem dX12_isReserve_13 : decode cX12_isReserve 13 = .ok (.getfield 99, 3) := by decide +kernel
theorem dX12_isReserve_16 : decode cX12_isReserve 16 = .ok (.isub, 1) := by decide +kernel
theorem dX12_isReserve_17 : decode cX12_isReserve 17 = .ok (.bipush 7, 2) := by decide +kernel
theorem dX12_isReserve_19 : decode cX12_isReserve 19 = .ok (.if_icmp .ne 110, 3) := by decide +kernel
theorem dX12_isReserve_22 : decode cX12_isReserve 22 = .ok (.aload_n 0, 1) := by decide +kernel
theorem dX12_isReserve_23 : decode cX12_isReserve 23 = .ok (.aload_n 0, 1) := by decide +kernel
theorem dX12_isReserve_24 : decode cX12_isReserve 24 = .ok (.getfield 99, 3) := by decide +kernel
theorem dX12_isReserve_27 : decode cX12_isReserve 27 = .ok (.invokevirtual 95, 3) := by decide +kernel
theorem dX12_isReserve_30 : decode cX12_isReserve 30 = .ok (.aload_n 0, 1) := by decide +kernel
theorem dX12_isReserve_31 : decode cX12_isReserve 31 = .ok (.aload_n 0, 1) := by decide +kernel
theorem dX12_isReserve_32 : decode cX12_isReserve 32 = .ok (.getfield 99, 3) := by decide +kernel
theorem dX12_isReserve_35 : decode cX12_isReserve 35 = .ok (.iconst 1, 1) := by decide +kernel
theorem dX12_isReserve_36 : decode cX12_isReserve 36 = .ok (.iadd, 1) := by decide +kernel
theorem dX12_isReserve_37 : decode cX12_isReserve 37 = .ok (.invokevirtual 95, 3) := by decide +kernel
theorem dX12_isReserve_40 : decode cX12_isReserve 40 = .ok (.aload_n 0, 1) := by decide +kernel
theorem dX12_isReserve_41 : decode cX12_isReserve 41 = .ok (.aload_n 0, 1) := by decide +kernel
theorem dX12_isReserve_42 : decode cX12_isReserve 42 = .ok (.getfield 99, 3) := by decide +kernel
theorem dX12_isReserve_45 : decode cX12_isReserve 45 = .ok (.iconst 2, 1) := by decide +kernel
theorem dX12_isReserve_46 : decode cX12_isReserve 46 = .ok (.iadd, 1) := by decide +kernel
theorem dX12_isReserve_47 : decode cX12_isReserve 47 = .ok (.invokevirtual 95, 3) := by decide +kernel
theorem dX12_isReserve_50 : decode cX12_isReserve 50 = .ok (.aload_n 0, 1) := by decide +kernel
theorem dX12_isReserve_51 : decode cX12_isReserve 51 = .ok (.aload_n 0, 1) := by decide +kernel
theorem dX12_isReserve_52 : decode cX12_isReserve 52 = .ok (.getfield 99, 3) := by decide +kernel
theorem dX12_isReserve_55 : decode cX12_isReserve 55 = .ok (.iconst 3, 1) := by decide +kernel
theorem dX12_isReserve_56 : decode cX12_isReserve 56 = .ok (.iadd, 1) := by decide +kernel
theorem dX12_isReserve_57 : decode cX12_isReserve 57 = .ok (.invokevirtual 95, 3) := by decide +kernel
theorem dX12_isReserve_60 : decode cX12_isReserve 60 = .ok (.invokestatic 132, 3) := by decide +kernel
theorem dX12_isReserve_63 : decode cX12_isReserve 63 = .ok (.bipush 114, 2) := by decide +kernel
theorem dX12_isReserve_65 : decode cX12_isReserve 65 = .ok (.bipush 101, 2) := by decide +kernel
theorem dX12_isReserve_67 : decode cX12_isReserve 67 = .ok (.bipush 115, 2) := by decide +kernel
theorem dX12_isReserve_69 : decode cX12_isReserve 69 = .ok (.bipush 101, 2) := by decide +kernel
theorem dX12_isReserve_71 : decode cX12_isReserve 71 = .ok (.invokestatic 132, 3) := by decide +kernel
theorem dX12_isReserve_74 : decode cX12_isReserve 74 = .ok (.lcmp, 1) := by decide +kernel
theorem dX12_isReserve_75 : decode cX12_isReserve 75 = .ok (.ifCond .ne 54, 3) := by decide +kernel
theorem dX12_isReserve_78 : decode cX12_isReserve 78 = .ok (.aload_n 0, 1) := by decide +kernel
theorem dX12_isReserve_79 : decode cX12_isReserve 79 = .ok (.aload_n 0, 1) := by decide +kernel
theorem dX12_isReserve_80 : decode cX12_isReserve 80 = .ok (.getfield 99, 3) := by decide +kernel
theorem dX12_isReserve_83 : decode cX12_isReserve 83 = .ok (.iconst 4, 1) := by decide +kernel
theorem dX12_isReserve_84 : decode cX12_isReserve 84 = .ok (.iadd, 1) := by decide +kernel
theorem dX12_isReserve_85 : decode cX12_isReserve 85 = .ok (.invokevirtual 95, 3) := by decide +kernel
theorem dX12_isReserve_88 : decode cX12_isReserve 88 = .ok (.aload_n 0, 1) := by decide +kernel
theorem dX12_isReserve_89 : decode cX12_isReserve 89 = .ok (.aload_n 0, 1) := by decide +kernel
theorem dX12_isReserve_90 : decode cX12_isReserve 90 = .ok (.getfield 99, 3) := by decide +kernel
theorem dX12_isReserve_93 : decode cX12_isReserve 93 = .ok (.iconst 5, 1) := by decide +kernel
theorem dX12_isReserve_94 : decode cX12_isReserve 94 = .ok (.iadd, 1) := by decide +kernel
theorem dX12_isReserve_95 : decode cX12_isReserve 95 = .ok (.invokevirtual 95, 3) := by decide +kernel
theorem dX12_isReserve_98 : decode cX12_isReserve 98 = .ok (.aload_n 0, 1) := by decide +kernel
theorem dX12_isReserve_99 : decode cX12_isReserve 99 = .ok (.aload_n 0, 1) := by decide +kernel
theorem dX12_isReserve_100 : decode cX12_isReserve 100 = .ok (.getfield 99, 3) := by decide +kernel
theorem dX12_isReserve_103 : decode cX12_isReserve 103 = .ok (.bipush 6, 2) := by decide +kernel
theorem dX12_isReserve_105 : decode cX12_isReserve 105 = .ok (.iadd, 1) := by decide +kernel
theorem dX12_isReserve_106 : decode cX12_isReserve 106 = .ok (.invokevirtual 95, 3) := by decide +kernel
theorem dX12_isReserve_109 : decode cX12_isReserve 109 = .ok (.invokestatic 128, 3) := by decide +kernel
theorem dX12_isReserve_112 : decode cX12_isReserve 112 = .ok (.bipush 114, 2) := by decide +kernel
theorem dX12_isReserve_114 : decode cX12_isReserve 114 = .ok (.bipush 118, 2) := by decide +kernel
theorem dX12_isReserve_116 : decode cX12_isReserve 116 = .ok (.bipush 101, 2) := by decide +kernel
theorem dX12_isReserve_118 : decode cX12_isReserve 118 = .ok (.invokestatic 128, 3) := by decide +kernel
theorem dX12_isReserve_121 : decode cX12_isReserve 121 = .ok (.lcmp, 1) := by decide +kernel
theorem dX12_isReserve_122 : decode cX12_isReserve 122 = .ok (.ifCond .ne 7, 3) := by decide +kernel
theorem dX12_isReserve_125 : decode cX12_isReserve 125 = .ok (.iconst 1, 1) := by decide +kernel
theorem dX12_isReserve_126 : decode cX12_isReserve 126 = .ok (.goto 4, 3) := by decide +kernel
theorem dX12_isReserve_129 : decode cX12_isReserve 129 = .ok (.iconst 0, 1) := by decide +kernel
theorem dX12_isReserve_130 : decode cX12_isReserve 130 = .ok (.ireturn, 1) := by decide +kernel
theorem dX12_nameOf_0 : decode cX12_nameOf 0 = .ok (.aload_n 0, 1) := by decide +kernel
theorem dX12_nameOf_1 : decode cX12_nameOf 1 = .ok (.getfield 102, 3) := by decide +kernel
theorem dX12_nameOf_4 : decode cX12_nameOf 4 = .ok (.iconst 2, 1) := by decide +kernel
theorem dX12_nameOf_5 : decode cX12_nameOf 5 = .ok (.if_icmp .eq 5, 3) := by decide +kernel
theorem dX12_nameOf_8 : decode cX12_nameOf 8 = .ok (.iconst (-1), 1) := by decide +kernel
theorem dX12_nameOf_9 : decode cX12_nameOf 9 = .ok (.ireturn, 1) := by decide +kernel
theorem dX12_nameOf_10 : decode cX12_nameOf 10 = .ok (.aload_n 0, 1) := by decide +kernel
theorem dX12_nameOf_11 : decode cX12_nameOf 11 = .ok (.getfield 115, 3) := by decide +kernel
theorem dX12_nameOf_14 : decode cX12_nameOf 14 = .ok (.bipush 119, 2) := by decide +kernel
theorem dX12_nameOf_16 : decode cX12_nameOf 16 = .ok (.bipush 101, 2) := by decide +kernel
theorem dX12_nameOf_18 : decode cX12_nameOf 18 = .ok (.bipush 101, 2) := by decide +kernel
theorem dX12_nameOf_20 : decode cX12_nameOf 20 = .ok (.bipush 107, 2) := by decide +kernel
theorem dX12_nameOf_22 : decode cX12_nameOf 22 = .ok (.invokestatic 132, 3) := by decide +kernel
theorem dX12_nameOf_25 : decode cX12_nameOf 25 = .ok (.lcmp, 1) := by decide +kernel
theorem dX12_nameOf_26 : decode cX12_nameOf 26 = .ok (.ifCond .ne 5, 3) := by decide +kernel
theorem dX12_nameOf_29 : decode cX12_nameOf 29 = .ok (.iconst 0, 1) := by decide +kernel
theorem dX12_nameOf_30 : decode cX12_nameOf 30 = .ok (.ireturn, 1) := by decide +kernel
theorem dX12_nameOf_31 : decode cX12_nameOf 31 = .ok (.aload_n 0, 1) := by decide +kernel
theorem dX12_nameOf_32 : decode cX12_nameOf 32 = .ok (.getfield 115, 3) := by decide +kernel
theorem dX12_nameOf_35 : decode cX12_nameOf 35 = .ok (.bipush 102, 2) := by decide +kernel
theorem dX12_nameOf_37 : decode cX12_nameOf 37 = .ok (.bipush 108, 2) := by decide +kernel
theorem dX12_nameOf_39 : decode cX12_nameOf 39 = .ok (.bipush 111, 2) := by decide +kernel
theorem dX12_nameOf_41 : decode cX12_nameOf 41 = .ok (.bipush 111, 2) := by decide +kernel
theorem dX12_nameOf_43 : decode cX12_nameOf 43 = .ok (.bipush 114, 2) := by decide +kernel
theorem dX12_nameOf_45 : decode cX12_nameOf 45 = .ok (.invokestatic 136, 3) := by decide +kernel
theorem dX12_nameOf_48 : decode cX12_nameOf 48 = .ok (.lcmp, 1) := by decide +kernel
theorem dX12_nameOf_49 : decode cX12_nameOf 49 = .ok (.ifCond .ne 5, 3) := by decide +kernel
theorem dX12_nameOf_52 : decode cX12_nameOf 52 = .ok (.iconst 1, 1) := by decide +kernel
theorem dX12_nameOf_53 : decode cX12_nameOf 53 = .ok (.ireturn, 1) := by decide +kernel
theorem dX12_nameOf_54 : decode cX12_nameOf 54 = .ok (.aload_n 0, 1) := by decide +kernel
theorem dX12_nameOf_55 : decode cX12_nameOf 55 = .ok (.getfield 115, 3) := by decide +kernel
theorem dX12_nameOf_58 : decode cX12_nameOf 58 = .ok (.bipush 119, 2) := by decide +kernel
theorem dX12_nameOf_60 : decode cX12_nameOf 60 = .ok (.bipush 111, 2) := by decide +kernel
theorem dX12_nameOf_62 : decode cX12_nameOf 62 = .ok (.bipush 114, 2) := by decide +kernel
theorem dX12_nameOf_64 : decode cX12_nameOf 64 = .ok (.bipush 116, 2) := by decide +kernel
theorem dX12_nameOf_66 : decode cX12_nameOf 66 = .ok (.bipush 104, 2) := by decide +kernel
theorem dX12_nameOf_68 : decode cX12_nameOf 68 = .ok (.invokestatic 136, 3) := by decide +kernel
theorem dX12_nameOf_71 : decode cX12_nameOf 71 = .ok (.lcmp, 1) := by decide +kernel
theorem dX12_nameOf_72 : decode cX12_nameOf 72 = .ok (.ifCond .ne 5, 3) := by decide +kernel
theorem dX12_nameOf_75 : decode cX12_nameOf 75 = .ok (.iconst 2, 1) := by decide +kernel
theorem dX12_nameOf_76 : decode cX12_nameOf 76 = .ok (.ireturn, 1) := by decide +kernel
theorem dX12_nameOf_77 : decode cX12_nameOf 77 = .ok (.aload_n 0, 1) := by decide +kernel
theorem dX12_nameOf_78 : decode cX12_nameOf 78 = .ok (.getfield 115, 3) := by decide +kernel
theorem dX12_nameOf_81 : decode cX12_nameOf 81 = .ok (.bipush 119, 2) := by decide +kernel
theorem dX12_nameOf_83 : decode cX12_nameOf 83 = .ok (.bipush 101, 2) := by decide +kernel
theorem dX12_nameOf_85 : decode cX12_nameOf 85 = .ok (.bipush 105, 2) := by decide +kernel
theorem dX12_nameOf_87 : decode cX12_nameOf 87 = .ok (.bipush 103, 2) := by decide +kernel
theorem dX12_nameOf_89 : decode cX12_nameOf 89 = .ok (.bipush 104, 2) := by decide +kernel
theorem dX12_nameOf_91 : decode cX12_nameOf 91 = .ok (.bipush 116, 2) := by decide +kernel
theorem dX12_nameOf_93 : decode cX12_nameOf 93 = .ok (.invokestatic 146, 3) := by decide +kernel
theorem dX12_nameOf_96 : decode cX12_nameOf 96 = .ok (.lcmp, 1) := by decide +kernel
theorem dX12_nameOf_97 : decode cX12_nameOf 97 = .ok (.ifCond .ne 5, 3) := by decide +kernel
theorem dX12_nameOf_100 : decode cX12_nameOf 100 = .ok (.iconst 3, 1) := by decide +kernel
theorem dX12_nameOf_101 : decode cX12_nameOf 101 = .ok (.ireturn, 1) := by decide +kernel
theorem dX12_nameOf_102 : decode cX12_nameOf 102 = .ok (.aload_n 0, 1) := by decide +kernel
theorem dX12_nameOf_103 : decode cX12_nameOf 103 = .ok (.getfield 115, 3) := by decide +kernel
theorem dX12_nameOf_106 : decode cX12_nameOf 106 = .ok (.bipush 108, 2) := by decide +kernel
theorem dX12_nameOf_108 : decode cX12_nameOf 108 = .ok (.bipush 111, 2) := by decide +kernel
theorem dX12_nameOf_110 : decode cX12_nameOf 110 = .ok (.bipush 116, 2) := by decide +kernel
theorem dX12_nameOf_112 : decode cX12_nameOf 112 = .ok (.invokestatic 128, 3) := by decide +kernel
theorem dX12_nameOf_115 : decode cX12_nameOf 115 = .ok (.lcmp, 1) := by decide +kernel
theorem dX12_nameOf_116 : decode cX12_nameOf 116 = .ok (.ifCond .ne 5, 3) := by decide +kernel
theorem dX12_nameOf_119 : decode cX12_nameOf 119 = .ok (.iconst 4, 1) := by decide +kernel
theorem dX12_nameOf_120 : decode cX12_nameOf 120 = .ok (.ireturn, 1) := by decide +kernel
theorem dX12_nameOf_121 : decode cX12_nameOf 121 = .ok (.aload_n 0, 1) := by decide +kernel
theorem dX12_nameOf_122 : decode cX12_nameOf 122 = .ok (.getfield 115, 3) := by decide +kernel
theorem dX12_nameOf_125 : decode cX12_nameOf 125 = .ok (.bipush 119, 2) := by decide +kernel
theorem dX12_nameOf_127 : decode cX12_nameOf 127 = .ok (.bipush 97, 2) := by decide +kernel
theorem dX12_nameOf_129 : decode cX12_nameOf 129 = .ok (.bipush 110, 2) := by decide +kernel
theorem dX12_nameOf_131 : decode cX12_nameOf 131 = .ok (.bipush 116, 2) := by decide +kernel
theorem dX12_nameOf_133 : decode cX12_nameOf 133 = .ok (.invokestatic 132, 3) := by decide +kernel
theorem dX12_nameOf_136 : decode cX12_nameOf 136 = .ok (.lcmp, 1) := by decide +kernel
theorem dX12_nameOf_137 : decode cX12_nameOf 137 = .ok (.ifCond .ne 5, 3) := by decide +kernel
theorem dX12_nameOf_140 : decode cX12_nameOf 140 = .ok (.iconst 5, 1) := by decide +kernel
theorem dX12_nameOf_141 : decode cX12_nameOf 141 = .ok (.ireturn, 1) := by decide +kernel
theorem dX12_nameOf_142 : decode cX12_nameOf 142 = .ok (.aload_n 0, 1) := by decide +kernel
theorem dX12_nameOf_143 : decode cX12_nameOf 143 = .ok (.getfield 115, 3) := by decide +kernel
theorem dX12_nameOf_146 : decode cX12_nameOf 146 = .ok (.bipush 112, 2) := by decide +kernel
theorem dX12_nameOf_148 : decode cX12_nameOf 148 = .ok (.bipush 117, 2) := by decide +kernel
theorem dX12_nameOf_150 : decode cX12_nameOf 150 = .ok (.bipush 114, 2) := by decide +kernel
theorem dX12_nameOf_152 : decode cX12_nameOf 152 = .ok (.bipush 115, 2) := by decide +kernel
theorem dX12_nameOf_154 : decode cX12_nameOf 154 = .ok (.bipush 101, 2) := by decide +kernel
theorem dX12_nameOf_156 : decode cX12_nameOf 156 = .ok (.invokestatic 136, 3) := by decide +kernel
theorem dX12_nameOf_159 : decode cX12_nameOf 159 = .ok (.lcmp, 1) := by decide +kernel
theorem dX12_nameOf_160 : decode cX12_nameOf 160 = .ok (.ifCond .ne 6, 3) := by decide +kernel
theorem dX12_nameOf_163 : decode cX12_nameOf 163 = .ok (.bipush 6, 2) := by decide +kernel
theorem dX12_nameOf_165 : decode cX12_nameOf 165 = .ok (.ireturn, 1) := by decide +kernel
theorem dX12_nameOf_166 : decode cX12_nameOf 166 = .ok (.aload_n 0, 1) := by decide +kernel
theorem dX12_nameOf_167 : decode cX12_nameOf 167 = .ok (.getfield 115, 3) := by decide +kernel
theorem dX12_nameOf_170 : decode cX12_nameOf 170 = .ok (.bipush 119, 2) := by decide +kernel
theorem dX12_nameOf_172 : decode cX12_nameOf 172 = .ok (.bipush 104, 2) := by decide +kernel
theorem dX12_nameOf_174 : decode cX12_nameOf 174 = .ok (.bipush 111, 2) := by decide +kernel
theorem dX12_nameOf_176 : decode cX12_nameOf 176 = .ok (.invokestatic 128, 3) := by decide +kernel
theorem dX12_nameOf_179 : decode cX12_nameOf 179 = .ok (.lcmp, 1) := by decide +kernel
theorem dX12_nameOf_180 : decode cX12_nameOf 180 = .ok (.ifCond .ne 8, 3) := by decide +kernel
theorem dX12_nameOf_183 : decode cX12_nameOf 183 = .ok (.bipush 7, 2) := by decide +kernel
theorem dX12_nameOf_185 : decode cX12_nameOf 185 = .ok (.goto 26, 3) := by decide +kernel
theorem dX12_nameOf_188 : decode cX12_nameOf 188 = .ok (.aload_n 0, 1) := by decide +kernel
theorem dX12_nameOf_189 : decode cX12_nameOf 189 = .ok (.getfield 115, 3) := by decide +kernel
theorem dX12_nameOf_192 : decode cX12_nameOf 192 = .ok (.bipush 104, 2) := by decide +kernel
theorem dX12_nameOf_194 : decode cX12_nameOf 194 = .ok (.bipush 97, 2) := by decide +kernel
theorem dX12_nameOf_196 : decode cX12_nameOf 196 = .ok (.bipush 115, 2) := by decide +kernel
theorem dX12_nameOf_198 : decode cX12_nameOf 198 = .ok (.invokestatic 128, 3) := by decide +kernel
theorem dX12_nameOf_201 : decode cX12_nameOf 201 = .ok (.lcmp, 1) := by decide +kernel
theorem dX12_nameOf_202 : decode cX12_nameOf 202 = .ok (.ifCond .ne 8, 3) := by decide +kernel
