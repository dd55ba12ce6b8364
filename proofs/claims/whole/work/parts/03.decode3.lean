theorem dX12_canBuy_37 : decode cX12_canBuy 37 = .ok (.if_icmp .le 5, 3) := by decide +kernel
theorem dX12_canBuy_40 : decode cX12_canBuy 40 = .ok (.iconst 0, 1) := by decide +kernel
theorem dX12_canBuy_41 : decode cX12_canBuy 41 = .ok (.ireturn, 1) := by decide +kernel
theorem dX12_canBuy_42 : decode cX12_canBuy 42 = .ok (.iload_n 2, 1) := by decide +kernel
theorem dX12_canBuy_43 : decode cX12_canBuy 43 = .ok (.aload_n 0, 1) := by decide +kernel
theorem dX12_canBuy_44 : decode cX12_canBuy 44 = .ok (.aload_n 0, 1) := by decide +kernel
theorem dX12_canBuy_45 : decode cX12_canBuy 45 = .ok (.iload_n 1, 1) := by decide +kernel
theorem dX12_canBuy_46 : decode cX12_canBuy 46 = .ok (.iconst 1, 1) := by decide +kernel
theorem dX12_canBuy_47 : decode cX12_canBuy 47 = .ok (.invokevirtual 68, 3) := by decide +kernel
theorem dX12_canBuy_50 : decode cX12_canBuy 50 = .ok (.iconst 3, 1) := by decide +kernel
theorem dX12_canBuy_51 : decode cX12_canBuy 51 = .ok (.isub, 1) := by decide +kernel
theorem dX12_canBuy_52 : decode cX12_canBuy 52 = .ok (.iconst 1, 1) := by decide +kernel
theorem dX12_canBuy_53 : decode cX12_canBuy 53 = .ok (.iload_n 1, 1) := by decide +kernel
theorem dX12_canBuy_54 : decode cX12_canBuy 54 = .ok (.iadd, 1) := by decide +kernel
theorem dX12_canBuy_55 : decode cX12_canBuy 55 = .ok (.invokevirtual 299, 3) := by decide +kernel
theorem dX12_canBuy_58 : decode cX12_canBuy 58 = .ok (.if_icmp .lt 7, 3) := by decide +kernel
theorem dX12_canBuy_61 : decode cX12_canBuy 61 = .ok (.iconst 1, 1) := by decide +kernel
theorem dX12_canBuy_62 : decode cX12_canBuy 62 = .ok (.goto 4, 3) := by decide +kernel
theorem dX12_canBuy_65 : decode cX12_canBuy 65 = .ok (.iconst 0, 1) := by decide +kernel
theorem dX12_canBuy_66 : decode cX12_canBuy 66 = .ok (.ireturn, 1) := by decide +kernel
theorem dX12_buyNow_0 : decode cX12_buyNow 0 = .ok (.aload_n 0, 1) := by decide +kernel
theorem dX12_buyNow_1 : decode cX12_buyNow 1 = .ok (.iload_n 1, 1) := by decide +kernel
theorem dX12_buyNow_2 : decode cX12_buyNow 2 = .ok (.iconst 1, 1) := by decide +kernel
theorem dX12_buyNow_3 : decode cX12_buyNow 3 = .ok (.invokevirtual 68, 3) := by decide +kernel
theorem dX12_buyNow_6 : decode cX12_buyNow 6 = .ok (.iconst 3, 1) := by decide +kernel
theorem dX12_buyNow_7 : decode cX12_buyNow 7 = .ok (.isub, 1) := by decide +kernel
theorem dX12_buyNow_8 : decode cX12_buyNow 8 = .ok (.istore_n 3, 1) := by decide +kernel
theorem dX12_buyNow_9 : decode cX12_buyNow 9 = .ok (.aload_n 0, 1) := by decide +kernel
theorem dX12_buyNow_10 : decode cX12_buyNow 10 = .ok (.getfield 7, 3) := by decide +kernel
theorem dX12_buyNow_13 : decode cX12_buyNow 13 = .ok (.bipush 8, 2) := by decide +kernel
theorem dX12_buyNow_15 : decode cX12_buyNow 15 = .ok (.dup2, 1) := by decide +kernel
theorem dX12_buyNow_16 : decode cX12_buyNow 16 = .ok (.iaload, 1) := by decide +kernel
theorem dX12_buyNow_17 : decode cX12_buyNow 17 = .ok (.iload_n 2, 1) := by decide +kernel
theorem dX12_buyNow_18 : decode cX12_buyNow 18 = .ok (.isub, 1) := by decide +kernel
theorem dX12_buyNow_19 : decode cX12_buyNow 19 = .ok (.iastore, 1) := by decide +kernel
theorem dX12_buyNow_20 : decode cX12_buyNow 20 = .ok (.aload_n 0, 1) := by decide +kernel
theorem dX12_buyNow_21 : decode cX12_buyNow 21 = .ok (.iload_n 3, 1) := by decide +kernel
theorem dX12_buyNow_22 : decode cX12_buyNow 22 = .ok (.iconst 0, 1) := by decide +kernel
theorem dX12_buyNow_23 : decode cX12_buyNow 23 = .ok (.aload_n 0, 1) := by decide +kernel
theorem dX12_buyNow_24 : decode cX12_buyNow 24 = .ok (.iload_n 3, 1) := by decide +kernel
theorem dX12_buyNow_25 : decode cX12_buyNow 25 = .ok (.iconst 0, 1) := by decide +kernel
theorem dX12_buyNow_26 : decode cX12_buyNow 26 = .ok (.invokevirtual 299, 3) := by decide +kernel
theorem dX12_buyNow_29 : decode cX12_buyNow 29 = .ok (.iload_n 2, 1) := by decide +kernel
theorem dX12_buyNow_30 : decode cX12_buyNow 30 = .ok (.iadd, 1) := by decide +kernel
theorem dX12_buyNow_31 : decode cX12_buyNow 31 = .ok (.i2l, 1) := by decide +kernel
theorem dX12_buyNow_32 : decode cX12_buyNow 32 = .ok (.iconst 0, 1) := by decide +kernel
theorem dX12_buyNow_33 : decode cX12_buyNow 33 = .ok (.sipush 9999, 3) := by decide +kernel
theorem dX12_buyNow_36 : decode cX12_buyNow 36 = .ok (.invokestatic 292, 3) := by decide +kernel
theorem dX12_buyNow_39 : decode cX12_buyNow 39 = .ok (.invokevirtual 79, 3) := by decide +kernel
theorem dX12_buyNow_42 : decode cX12_buyNow 42 = .ok (.aload_n 0, 1) := by decide +kernel
theorem dX12_buyNow_43 : decode cX12_buyNow 43 = .ok (.iload_n 1, 1) := by decide +kernel
theorem dX12_buyNow_44 : decode cX12_buyNow 44 = .ok (.iconst 1, 1) := by decide +kernel
theorem dX12_buyNow_45 : decode cX12_buyNow 45 = .ok (.iconst 1, 1) := by decide +kernel
theorem dX12_buyNow_46 : decode cX12_buyNow 46 = .ok (.invokevirtual 75, 3) := by decide +kernel
theorem dX12_buyNow_49 : decode cX12_buyNow 49 = .ok (.return_, 1) := by decide +kernel
theorem dX12_buy_0 : decode cX12_buy 0 = .ok (.aload_n 0, 1) := by decide +kernel
theorem dX12_buy_1 : decode cX12_buy 1 = .ok (.iload_n 1, 1) := by decide +kernel
theorem dX12_buy_2 : decode cX12_buy 2 = .ok (.iload_n 2, 1) := by decide +kernel
theorem dX12_buy_3 : decode cX12_buy 3 = .ok (.invokevirtual 367, 3) := by decide +kernel
theorem dX12_buy_6 : decode cX12_buy 6 = .ok (.ifCond .ne 5, 3) := by decide +kernel
theorem dX12_buy_9 : decode cX12_buy 9 = .ok (.iconst 0, 1) := by decide +kernel
theorem dX12_buy_10 : decode cX12_buy 10 = .ok (.ireturn, 1) := by decide +kernel
theorem dX12_buy_11 : decode cX12_buy 11 = .ok (.aload_n 0, 1) := by decide +kernel
theorem dX12_buy_12 : decode cX12_buy 12 = .ok (.invokevirtual 358, 3) := by decide +kernel
theorem dX12_buy_15 : decode cX12_buy 15 = .ok (.aload_n 0, 1) := by decide +kernel
theorem dX12_buy_16 : decode cX12_buy 16 = .ok (.iload_n 1, 1) := by decide +kernel
theorem dX12_buy_17 : decode cX12_buy 17 = .ok (.iload_n 2, 1) := by decide +kernel
theorem dX12_buy_18 : decode cX12_buy 18 = .ok (.invokevirtual 370, 3) := by decide +kernel
theorem dX12_buy_21 : decode cX12_buy 21 = .ok (.iconst 1, 1) := by decide +kernel
theorem dX12_buy_22 : decode cX12_buy 22 = .ok (.ireturn, 1) := by decide +kernel
theorem dX12_arePassed_0 : decode cX12_arePassed 0 = .ok (.aload_n 0, 1) := by decide +kernel
theorem dX12_arePassed_1 : decode cX12_arePassed 1 = .ok (.iconst 0, 1) := by decide +kernel
theorem dX12_arePassed_2 : decode cX12_arePassed 2 = .ok (.putfield 331, 3) := by decide +kernel
theorem dX12_arePassed_5 : decode cX12_arePassed 5 = .ok (.iconst 0, 1) := by decide +kernel
theorem dX12_arePassed_6 : decode cX12_arePassed 6 = .ok (.istore_n 2, 1) := by decide +kernel
theorem dX12_arePassed_7 : decode cX12_arePassed 7 = .ok (.iload_n 2, 1) := by decide +kernel
theorem dX12_arePassed_8 : decode cX12_arePassed 8 = .ok (.iload_n 1, 1) := by decide +kernel
theorem dX12_arePassed_9 : decode cX12_arePassed 9 = .ok (.if_icmp .ge 32, 3) := by decide +kernel
theorem dX12_arePassed_12 : decode cX12_arePassed 12 = .ok (.aload_n 0, 1) := by decide +kernel
theorem dX12_arePassed_13 : decode cX12_arePassed 13 = .ok (.getfield 7, 3) := by decide +kernel
theorem dX12_arePassed_16 : decode cX12_arePassed 16 = .ok (.bipush 7, 2) := by decide +kernel
theorem dX12_arePassed_18 : decode cX12_arePassed 18 = .ok (.iaload, 1) := by decide +kernel
theorem dX12_arePassed_19 : decode cX12_arePassed 19 = .ok (.sipush 9999, 3) := by decide +kernel
theorem dX12_arePassed_22 : decode cX12_arePassed 22 = .ok (.if_icmp .ne 5, 3) := by decide +kernel
theorem dX12_arePassed_25 : decode cX12_arePassed 25 = .ok (.iconst 0, 1) := by decide +kernel
theorem dX12_arePassed_26 : decode cX12_arePassed 26 = .ok (.ireturn, 1) := by decide +kernel
theorem dX12_arePassed_27 : decode cX12_arePassed 27 = .ok (.aload_n 0, 1) := by decide +kernel
theorem dX12_arePassed_28 : decode cX12_arePassed 28 = .ok (.invokevirtual 358, 3) := by decide +kernel
theorem dX12_arePassed_31 : decode cX12_arePassed 31 = .ok (.aload_n 0, 1) := by decide +kernel
theorem dX12_arePassed_32 : decode cX12_arePassed 32 = .ok (.invokevirtual 373, 3) := by decide +kernel
theorem dX12_arePassed_35 : decode cX12_arePassed 35 = .ok (.iinc 2 1, 3) := by decide +kernel
theorem dX12_arePassed_38 : decode cX12_arePassed 38 = .ok (.goto (-31), 3) := by decide +kernel
theorem dX12_arePassed_41 : decode cX12_arePassed 41 = .ok (.iconst 1, 1) := by decide +kernel
theorem dX12_arePassed_42 : decode cX12_arePassed 42 = .ok (.ireturn, 1) := by decide +kernel
theorem dX12_week_0 : decode cX12_week 0 = .ok (.iload_n 1, 1) := by decide +kernel
theorem dX12_week_1 : decode cX12_week 1 = .ok (.iconst 1, 1) := by decide +kernel
theorem dX12_week_2 : decode cX12_week 2 = .ok (.bipush 60, 2) := by decide +kernel
theorem dX12_week_4 : decode cX12_week 4 = .ok (.invokestatic 60, 3) := by decide +kernel
theorem dX12_week_7 : decode cX12_week 7 = .ok (.ifCond .eq 33, 3) := by decide +kernel
theorem dX12_week_10 : decode cX12_week 10 = .ok (.aload_n 0, 1) := by decide +kernel
theorem dX12_week_11 : decode cX12_week 11 = .ok (.getfield 7, 3) := by decide +kernel
theorem dX12_week_14 : decode cX12_week 14 = .ok (.bipush 7, 2) := by decide +kernel
theorem dX12_week_16 : decode cX12_week 16 = .ok (.iaload, 1) := by decide +kernel
theorem dX12_week_17 : decode cX12_week 17 = .ok (.iload_n 1, 1) := by decide +kernel
theorem dX12_week_18 : decode cX12_week 18 = .ok (.iadd, 1) := by decide +kernel
theorem dX12_week_19 : decode cX12_week 19 = .ok (.sipush 9999, 3) := by decide +kernel
theorem dX12_week_22 : decode cX12_week 22 = .ok (.if_icmp .gt 18, 3) := by decide +kernel
theorem dX12_week_25 : decode cX12_week 25 = .ok (.aload_n 0, 1) := by decide +kernel
theorem dX12_week_26 : decode cX12_week 26 = .ok (.iload_n 1, 1) := by decide +kernel
theorem dX12_week_27 : decode cX12_week 27 = .ok (.invokevirtual 376, 3) := by decide +kernel
theorem dX12_week_30 : decode cX12_week 30 = .ok (.ifCond .eq 10, 3) := by decide +kernel
theorem dX12_week_33 : decode cX12_week 33 = .ok (.aload_n 0, 1) := by decide +kernel
theorem dX12_week_34 : decode cX12_week 34 = .ok (.getfield 331, 3) := by decide +kernel
theorem dX12_week_37 : decode cX12_week 37 = .ok (.goto 4, 3) := by decide +kernel
theorem dX12_week_40 : decode cX12_week 40 = .ok (.iconst (-1), 1) := by decide +kernel
theorem dX12_week_41 : decode cX12_week 41 = .ok (.ireturn, 1) := by decide +kernel
theorem dX12_isPlayed_0 : decode cX12_isPlayed 0 = .ok (.aload_n 0, 1) := by decide +kernel
theorem dX12_isPlayed_1 : decode cX12_isPlayed 1 = .ok (.getfield 16, 3) := by decide +kernel
theorem dX12_isPlayed_4 : decode cX12_isPlayed 4 = .ok (.iload_n 1, 1) := by decide +kernel
theorem dX12_isPlayed_5 : decode cX12_isPlayed 5 = .ok (.iconst 1, 1) := by decide +kernel
theorem dX12_isPlayed_6 : decode cX12_isPlayed 6 = .ok (.iadd, 1) := by decide +kernel
theorem dX12_isPlayed_7 : decode cX12_isPlayed 7 = .ok (.iaload, 1) := by decide +kernel
theorem dX12_isPlayed_8 : decode cX12_isPlayed 8 = .ok (.istore_n 2, 1) := by decide +kernel
theorem dX12_isPlayed_9 : decode cX12_isPlayed 9 = .ok (.aload_n 0, 1) := by decide +kernel
theorem dX12_isPlayed_10 : decode cX12_isPlayed 10 = .ok (.getfield 16, 3) := by decide +kernel
theorem dX12_isPlayed_13 : decode cX12_isPlayed 13 = .ok (.iload_n 1, 1) := by decide +kernel
theorem dX12_isPlayed_14 : decode cX12_isPlayed 14 = .ok (.iconst 2, 1) := by decide +kernel
theorem dX12_isPlayed_15 : decode cX12_isPlayed 15 = .ok (.iadd, 1) := by decide +kernel
theorem dX12_isPlayed_16 : decode cX12_isPlayed 16 = .ok (.iaload, 1) := by decide +kernel
theorem dX12_isPlayed_17 : decode cX12_isPlayed 17 = .ok (.istore_n 3, 1) := by decide +kernel
theorem dX12_isPlayed_18 : decode cX12_isPlayed 18 = .ok (.aload_n 0, 1) := by decide +kernel
theorem dX12_isPlayed_19 : decode cX12_isPlayed 19 = .ok (.getfield 16, 3) := by decide +kernel
theorem dX12_isPlayed_22 : decode cX12_isPlayed 22 = .ok (.iload_n 1, 1) := by decide +kernel
theorem dX12_isPlayed_23 : decode cX12_isPlayed 23 = .ok (.iaload, 1) := by decide +kernel
theorem dX12_isPlayed_24 : decode cX12_isPlayed 24 = .ok (.tableswitch 141 3 10 #[48, 71, 85, 100, 116, 122, 128, 135], 48) := by decide +kernel
theorem dX12_isPlayed_72 : decode cX12_isPlayed 72 = .ok (.aload_n 0, 1) := by decide +kernel
theorem dX12_isPlayed_73 : decode cX12_isPlayed 73 = .ok (.iload_n 2, 1) := by decide +kernel
theorem dX12_isPlayed_74 : decode cX12_isPlayed 74 = .ok (.iload_n 3, 1) := by decide +kernel
theorem dX12_isPlayed_75 : decode cX12_isPlayed 75 = .ok (.aload_n 0, 1) := by decide +kernel
theorem dX12_isPlayed_76 : decode cX12_isPlayed 76 = .ok (.getfield 16, 3) := by decide +kernel
theorem dX12_isPlayed_79 : decode cX12_isPlayed 79 = .ok (.iload_n 1, 1) := by decide +kernel
theorem dX12_isPlayed_80 : decode cX12_isPlayed 80 = .ok (.iconst 3, 1) := by decide +kernel
theorem dX12_isPlayed_81 : decode cX12_isPlayed 81 = .ok (.iadd, 1) := by decide +kernel
theorem dX12_isPlayed_82 : decode cX12_isPlayed 82 = .ok (.iaload, 1) := by decide +kernel
theorem dX12_isPlayed_83 : decode cX12_isPlayed 83 = .ok (.invokevirtual 379, 3) := by decide +kernel
theorem dX12_isPlayed_86 : decode cX12_isPlayed 86 = .ok (.ifCond .lt 7, 3) := by decide +kernel
theorem dX12_isPlayed_89 : decode cX12_isPlayed 89 = .ok (.iconst 1, 1) := by decide +kernel
theorem dX12_isPlayed_90 : decode cX12_isPlayed 90 = .ok (.goto 4, 3) := by decide +kernel
theorem dX12_isPlayed_93 : decode cX12_isPlayed 93 = .ok (.iconst 0, 1) := by decide +kernel
theorem dX12_isPlayed_94 : decode cX12_isPlayed 94 = .ok (.ireturn, 1) := by decide +kernel
theorem dX12_isPlayed_95 : decode cX12_isPlayed 95 = .ok (.aload_n 0, 1) := by decide +kernel
theorem dX12_isPlayed_96 : decode cX12_isPlayed 96 = .ok (.iload_n 2, 1) := by decide +kernel
theorem dX12_isPlayed_97 : decode cX12_isPlayed 97 = .ok (.invokevirtual 382, 3) := by decide +kernel
theorem dX12_isPlayed_100 : decode cX12_isPlayed 100 = .ok (.ifCond .lt 7, 3) := by decide +kernel
theorem dX12_isPlayed_103 : decode cX12_isPlayed 103 = .ok (.iconst 1, 1) := by decide +kernel
theorem dX12_isPlayed_104 : decode cX12_isPlayed 104 = .ok (.goto 4, 3) := by decide +kernel
theorem dX12_isPlayed_107 : decode cX12_isPlayed 107 = .ok (.iconst 0, 1) := by decide +kernel
theorem dX12_isPlayed_108 : decode cX12_isPlayed 108 = .ok (.ireturn, 1) := by decide +kernel
theorem dX12_isPlayed_109 : decode cX12_isPlayed 109 = .ok (.aload_n 0, 1) := by decide +kernel
theorem dX12_isPlayed_110 : decode cX12_isPlayed 110 = .ok (.aload_n 0, 1) := by decide +kernel
theorem dX12_isPlayed_111 : decode cX12_isPlayed 111 = .ok (.getfield 16, 3) := by decide +kernel
theorem dX12_isPlayed_114 : decode cX12_isPlayed 114 = .ok (.iload_n 1, 1) := by decide +kernel
theorem dX12_isPlayed_115 : decode cX12_isPlayed 115 = .ok (.iconst 3, 1) := by decide +kernel
theorem dX12_isPlayed_116 : decode cX12_isPlayed 116 = .ok (.iadd, 1) := by decide +kernel
theorem dX12_isPlayed_117 : decode cX12_isPlayed 117 = .ok (.iaload, 1) := by decide +kernel
theorem dX12_isPlayed_118 : decode cX12_isPlayed 118 = .ok (.iload_n 3, 1) := by decide +kernel
theorem dX12_isPlayed_119 : decode cX12_isPlayed 119 = .ok (.iload_n 2, 1) := by decide +kernel
theorem dX12_isPlayed_120 : decode cX12_isPlayed 120 = .ok (.invokevirtual 385, 3) := by decide +kernel
theorem dX12_isPlayed_123 : decode cX12_isPlayed 123 = .ok (.ireturn, 1) := by decide +kernel
theorem dX12_isPlayed_124 : decode cX12_isPlayed 124 = .ok (.aload_n 0, 1) := by decide +kernel
theorem dX12_isPlayed_125 : decode cX12_isPlayed 125 = .ok (.iload_n 2, 1) := by decide +kernel
theorem dX12_isPlayed_126 : decode cX12_isPlayed 126 = .ok (.invokevirtual 388, 3) := by decide +kernel
theorem dX12_isPlayed_129 : decode cX12_isPlayed 129 = .ok (.bipush (-2), 2) := by decide +kernel
theorem dX12_isPlayed_131 : decode cX12_isPlayed 131 = .ok (.if_icmp .eq 7, 3) := by decide +kernel
theorem dX12_isPlayed_134 : decode cX12_isPlayed 134 = .ok (.iconst 1, 1) := by decide +kernel
theorem dX12_isPlayed_135 : decode cX12_isPlayed 135 = .ok (.goto 4, 3) := by decide +kernel
theorem dX12_isPlayed_138 : decode cX12_isPlayed 138 = .ok (.iconst 0, 1) := by decide +kernel
theorem dX12_isPlayed_139 : decode cX12_isPlayed 139 = .ok (.ireturn, 1) := by decide +kernel
theorem dX12_isPlayed_140 : decode cX12_isPlayed 140 = .ok (.aload_n 0, 1) := by decide +kernel
theorem dX12_isPlayed_141 : decode cX12_isPlayed 141 = .ok (.iload_n 2, 1) := by decide +kernel
theorem dX12_isPlayed_142 : decode cX12_isPlayed 142 = .ok (.invokevirtual 391, 3) := by decide +kernel
theorem dX12_isPlayed_145 : decode cX12_isPlayed 145 = .ok (.ireturn, 1) := by decide +kernel
theorem dX12_isPlayed_146 : decode cX12_isPlayed 146 = .ok (.aload_n 0, 1) := by decide +kernel
theorem dX12_isPlayed_147 : decode cX12_isPlayed 147 = .ok (.iload_n 2, 1) := by decide +kernel
theorem dX12_isPlayed_148 : decode cX12_isPlayed 148 = .ok (.invokevirtual 394, 3) := by decide +kernel
theorem dX12_isPlayed_151 : decode cX12_isPlayed 151 = .ok (.ireturn, 1) := by decide +kernel
theorem dX12_isPlayed_152 : decode cX12_isPlayed 152 = .ok (.aload_n 0, 1) := by decide +kernel
theorem dX12_isPlayed_153 : decode cX12_isPlayed 153 = .ok (.iload_n 2, 1) := by decide +kernel
theorem dX12_isPlayed_154 : decode cX12_isPlayed 154 = .ok (.iload_n 3, 1) := by decide +kernel
theorem dX12_isPlayed_155 : decode cX12_isPlayed 155 = .ok (.invokevirtual 397, 3) := by decide +kernel
theorem dX12_isPlayed_158 : decode cX12_isPlayed 158 = .ok (.ireturn, 1) := by decide +kernel
theorem dX12_isPlayed_159 : decode cX12_isPlayed 159 = .ok (.aload_n 0, 1) := by decide +kernel
theorem dX12_isPlayed_160 : decode cX12_isPlayed 160 = .ok (.iload_n 2, 1) := by decide +kernel
theorem dX12_isPlayed_161 : decode cX12_isPlayed 161 = .ok (.invokevirtual 376, 3) := by decide +kernel
theorem dX12_isPlayed_164 : decode cX12_isPlayed 164 = .ok (.ireturn, 1) := by decide +kernel
theorem dX12_isPlayed_165 : decode cX12_isPlayed 165 = .ok (.iconst 1, 1) := by decide +kernel
theorem dX12_isPlayed_166 : decode cX12_isPlayed 166 = .ok (.ireturn, 1) := by decide +kernel
theorem dX12_played_0 : decode cX12_played 0 = .ok (.iload_n 1, 1) := by decide +kernel
theorem dX12_played_1 : decode cX12_played 1 = .ok (.iconst 0, 1) := by decide +kernel
theorem dX12_played_2 : decode cX12_played 2 = .ok (.aload_n 0, 1) := by decide +kernel
theorem dX12_played_3 : decode cX12_played 3 = .ok (.getfield 7, 3) := by decide +kernel
theorem dX12_played_6 : decode cX12_played 6 = .ok (.iconst 2, 1) := by decide +kernel
theorem dX12_played_7 : decode cX12_played 7 = .ok (.iaload, 1) := by decide +kernel
theorem dX12_played_8 : decode cX12_played 8 = .ok (.iconst 1, 1) := by decide +kernel
theorem dX12_played_9 : decode cX12_played 9 = .ok (.isub, 1) := by decide +kernel
theorem dX12_played_10 : decode cX12_played 10 = .ok (.invokestatic 60, 3) := by decide +kernel
theorem dX12_played_13 : decode cX12_played 13 = .ok (.ifCond .ne 6, 3) := by decide +kernel
theorem dX12_played_16 : decode cX12_played 16 = .ok (.bipush (-2), 2) := by decide +kernel
theorem dX12_played_18 : decode cX12_played 18 = .ok (.ireturn, 1) := by decide +kernel
theorem dX12_played_19 : decode cX12_played 19 = .ok (.iconst 0, 1) := by decide +kernel
theorem dX12_played_20 : decode cX12_played 20 = .ok (.istore_n 2, 1) := by decide +kernel
theorem dX12_played_21 : decode cX12_played 21 = .ok (.iload_n 2, 1) := by decide +kernel
theorem dX12_played_22 : decode cX12_played 22 = .ok (.aload_n 0, 1) := by decide +kernel
theorem dX12_played_23 : decode cX12_played 23 = .ok (.getfield 16, 3) := by decide +kernel
theorem dX12_played_26 : decode cX12_played 26 = .ok (.sipush 705, 3) := by decide +kernel
theorem dX12_played_29 : decode cX12_played 29 = .ok (.iload_n 1, 1) := by decide +kernel
theorem dX12_played_30 : decode cX12_played 30 = .ok (.imul, 1) := by decide +kernel
theorem dX12_played_31 : decode cX12_played 31 = .ok (.iaload, 1) := by decide +kernel
theorem dX12_played_32 : decode cX12_played 32 = .ok (.if_icmp .ge 29, 3) := by decide +kernel
theorem dX12_played_35 : decode cX12_played 35 = .ok (.aload_n 0, 1) := by decide +kernel
theorem dX12_played_36 : decode cX12_played 36 = .ok (.sipush 705, 3) := by decide +kernel
theorem dX12_played_39 : decode cX12_played 39 = .ok (.iload_n 1, 1) := by decide +kernel
theorem dX12_played_40 : decode cX12_played 40 = .ok (.imul, 1) := by decide +kernel
theorem dX12_played_41 : decode cX12_played 41 = .ok (.iconst 1, 1) := by decide +kernel
theorem dX12_played_42 : decode cX12_played 42 = .ok (.iadd, 1) := by decide +kernel
theorem dX12_played_43 : decode cX12_played 43 = .ok (.iconst 4, 1) := by decide +kernel
theorem dX12_played_44 : decode cX12_played 44 = .ok (.iload_n 2, 1) := by decide +kernel
theorem dX12_played_45 : decode cX12_played 45 = .ok (.imul, 1) := by decide +kernel
theorem dX12_played_46 : decode cX12_played 46 = .ok (.iadd, 1) := by decide +kernel
theorem dX12_played_47 : decode cX12_played 47 = .ok (.invokevirtual 400, 3) := by decide +kernel
theorem dX12_played_50 : decode cX12_played 50 = .ok (.ifCond .ne 5, 3) := by decide +kernel
theorem dX12_played_53 : decode cX12_played 53 = .ok (.iload_n 2, 1) := by decide +kernel
theorem dX12_played_54 : decode cX12_played 54 = .ok (.ireturn, 1) := by decide +kernel
theorem dX12_played_55 : decode cX12_played 55 = .ok (.iinc 2 1, 3) := by decide +kernel
theorem dX12_played_58 : decode cX12_played 58 = .ok (.goto (-37), 3) := by decide +kernel
theorem dX12_played_61 : decode cX12_played 61 = .ok (.iconst (-1), 1) := by decide +kernel
theorem dX12_played_62 : decode cX12_played 62 = .ok (.ireturn, 1) := by decide +kernel
theorem dX12_happens_0 : decode cX12_happens 0 = .ok (.iload_n 1, 1) := by decide +kernel
theorem dX12_happens_1 : decode cX12_happens 1 = .ok (.bipush 6, 2) := by decide +kernel
theorem dX12_happens_3 : decode cX12_happens 3 = .ok (.irem, 1) := by decide +kernel
theorem dX12_happens_4 : decode cX12_happens 4 = .ok (.iconst 3, 1) := by decide +kernel
theorem dX12_happens_5 : decode cX12_happens 5 = .ok (.if_icmp .le 21, 3) := by decide +kernel
theorem dX12_happens_8 : decode cX12_happens 8 = .ok (.aload_n 0, 1) := by decide +kernel
theorem dX12_happens_9 : decode cX12_happens 9 = .ok (.getfield 7, 3) := by decide +kernel
theorem dX12_happens_12 : decode cX12_happens 12 = .ok (.bipush 7, 2) := by decide +kernel
theorem dX12_happens_14 : decode cX12_happens 14 = .ok (.iaload, 1) := by decide +kernel
theorem dX12_happens_15 : decode cX12_happens 15 = .ok (.sipush 9999, 3) := by decide +kernel
theorem dX12_happens_18 : decode cX12_happens 18 = .ok (.if_icmp .ge 7, 3) := by decide +kernel
theorem dX12_happens_21 : decode cX12_happens 21 = .ok (.aload_n 0, 1) := by decide +kernel
theorem dX12_happens_22 : decode cX12_happens 22 = .ok (.invokevirtual 373, 3) := by decide +kernel
theorem dX12_happens_25 : decode cX12_happens 25 = .ok (.return_, 1) := by decide +kernel
theorem dX12_happens_26 : decode cX12_happens 26 = .ok (.aload_n 0, 1) := by decide +kernel
theorem dX12_happens_27 : decode cX12_happens 27 = .ok (.getfield 7, 3) := by decide +kernel
theorem dX12_happens_30 : decode cX12_happens 30 = .ok (.iconst 0, 1) := by decide +kernel
theorem dX12_happens_31 : decode cX12_happens 31 = .ok (.iaload, 1) := by decide +kernel
theorem dX12_happens_32 : decode cX12_happens 32 = .ok (.ifCond .ne 4, 3) := by decide +kernel
theorem dX12_happens_35 : decode cX12_happens 35 = .ok (.return_, 1) := by decide +kernel
theorem dX12_happens_36 : decode cX12_happens 36 = .ok (.iload_n 1, 1) := by decide +kernel
theorem dX12_happens_37 : decode cX12_happens 37 = .ok (.aload_n 0, 1) := by decide +kernel
theorem dX12_happens_38 : decode cX12_happens 38 = .ok (.getfield 7, 3) := by decide +kernel
theorem dX12_happens_41 : decode cX12_happens 41 = .ok (.iconst 0, 1) := by decide +kernel
theorem dX12_happens_42 : decode cX12_happens 42 = .ok (.iaload, 1) := by decide +kernel
theorem dX12_happens_43 : decode cX12_happens 43 = .ok (.irem, 1) := by decide +kernel
theorem dX12_happens_44 : decode cX12_happens 44 = .ok (.istore_n 2, 1) := by decide +kernel
theorem dX12_happens_45 : decode cX12_happens 45 = .ok (.iload_n 1, 1) := by decide +kernel
theorem dX12_happens_46 : decode cX12_happens 46 = .ok (.bipush 6, 2) := by decide +kernel
theorem dX12_happens_48 : decode cX12_happens 48 = .ok (.irem, 1) := by decide +kernel
theorem dX12_happens_49 : decode cX12_happens 49 = .ok (.ifCond .ne 20, 3) := by decide +kernel
theorem dX12_happens_52 : decode cX12_happens 52 = .ok (.aload_n 0, 1) := by decide +kernel
theorem dX12_happens_53 : decode cX12_happens 53 = .ok (.iload_n 2, 1) := by decide +kernel
theorem dX12_happens_54 : decode cX12_happens 54 = .ok (.invokevirtual 355, 3) := by decide +kernel
theorem dX12_happens_57 : decode cX12_happens 57 = .ok (.ifCond .eq 106, 3) := by decide +kernel
theorem dX12_happens_60 : decode cX12_happens 60 = .ok (.aload_n 0, 1) := by decide +kernel
theorem dX12_happens_61 : decode cX12_happens 61 = .ok (.iload_n 2, 1) := by decide +kernel
theorem dX12_happens_62 : decode cX12_happens 62 = .ok (.invokevirtual 346, 3) := by decide +kernel
theorem dX12_happens_65 : decode cX12_happens 65 = .ok (.pop, 1) := by decide +kernel
theorem dX12_happens_66 : decode cX12_happens 66 = .ok (.goto 97, 3) := by decide +kernel
theorem dX12_happens_69 : decode cX12_happens 69 = .ok (.iload_n 1, 1) := by decide +kernel
theorem dX12_happens_70 : decode cX12_happens 70 = .ok (.bipush 6, 2) := by decide +kernel
theorem dX12_happens_72 : decode cX12_happens 72 = .ok (.irem, 1) := by decide +kernel
theorem dX12_happens_73 : decode cX12_happens 73 = .ok (.iconst 1, 1) := by decide +kernel
theorem dX12_happens_74 : decode cX12_happens 74 = .ok (.if_icmp .ne 28, 3) := by decide +kernel
theorem dX12_happens_77 : decode cX12_happens 77 = .ok (.aload_n 0, 1) := by decide +kernel
theorem dX12_happens_78 : decode cX12_happens 78 = .ok (.iload_n 2, 1) := by decide +kernel
theorem dX12_happens_79 : decode cX12_happens 79 = .ok (.invokevirtual 361, 3) := by decide +kernel
theorem dX12_happens_82 : decode cX12_happens 82 = .ok (.ifCond .eq 81, 3) := by decide +kernel
theorem dX12_happens_85 : decode cX12_happens 85 = .ok (.aload_n 0, 1) := by decide +kernel
theorem dX12_happens_86 : decode cX12_happens 86 = .ok (.iload_n 2, 1) := by decide +kernel
theorem dX12_happens_87 : decode cX12_happens 87 = .ok (.iconst 0, 1) := by decide +kernel
theorem dX12_happens_88 : decode cX12_happens 88 = .ok (.aload_n 0, 1) := by decide +kernel
theorem dX12_happens_89 : decode cX12_happens 89 = .ok (.iload_n 2, 1) := by decide +kernel
theorem dX12_happens_90 : decode cX12_happens 90 = .ok (.iconst 0, 1) := by decide +kernel
theorem dX12_happens_91 : decode cX12_happens 91 = .ok (.invokevirtual 68, 3) := by decide +kernel
theorem dX12_happens_94 : decode cX12_happens 94 = .ok (.iconst 1, 1) := by decide +kernel
theorem dX12_happens_95 : decode cX12_happens 95 = .ok (.iadd, 1) := by decide +kernel
theorem dX12_happens_96 : decode cX12_happens 96 = .ok (.invokevirtual 75, 3) := by decide +kernel
theorem dX12_happens_99 : decode cX12_happens 99 = .ok (.goto 64, 3) := by decide +kernel
theorem dX12_happens_102 : decode cX12_happens 102 = .ok (.iload_n 1, 1) := by decide +kernel
theorem dX12_happens_103 : decode cX12_happens 103 = .ok (.bipush 6, 2) := by decide +kernel
theorem dX12_happens_105 : decode cX12_happens 105 = .ok (.irem, 1) := by decide +kernel
theorem dX12_happens_106 : decode cX12_happens 106 = .ok (.iconst 2, 1) := by decide +kernel
theorem dX12_happens_107 : decode cX12_happens 107 = .ok (.if_icmp .ne 29, 3) := by decide +kernel
theorem dX12_happens_110 : decode cX12_happens 110 = .ok (.iload_n 1, 1) := by decide +kernel
theorem dX12_happens_111 : decode cX12_happens 111 = .ok (.bipush 8, 2) := by decide +kernel
theorem dX12_happens_113 : decode cX12_happens 113 = .ok (.irem, 1) := by decide +kernel
theorem dX12_happens_114 : decode cX12_happens 114 = .ok (.iconst 2, 1) := by decide +kernel
theorem dX12_happens_115 : decode cX12_happens 115 = .ok (.if_icmp .ne 48, 3) := by decide +kernel
theorem dX12_happens_118 : decode cX12_happens 118 = .ok (.aload_n 0, 1) := by decide +kernel
theorem dX12_happens_119 : decode cX12_happens 119 = .ok (.iload_n 2, 1) := by decide +kernel
theorem dX12_happens_120 : decode cX12_happens 120 = .ok (.invokevirtual 364, 3) := by decide +kernel
theorem dX12_happens_123 : decode cX12_happens 123 = .ok (.ifCond .eq 40, 3) := by decide +kernel
theorem dX12_happens_126 : decode cX12_happens 126 = .ok (.aload_n 0, 1) := by decide +kernel
theorem dX12_happens_127 : decode cX12_happens 127 = .ok (.iload_n 2, 1) := by decide +kernel
theorem dX12_happens_128 : decode cX12_happens 128 = .ok (.iconst 1, 1) := by decide +kernel
theorem dX12_happens_129 : decode cX12_happens 129 = .ok (.iconst 2, 1) := by decide +kernel
theorem dX12_happens_130 : decode cX12_happens 130 = .ok (.invokevirtual 75, 3) := by decide +kernel
theorem dX12_happens_133 : decode cX12_happens 133 = .ok (.goto 30, 3) := by decide +kernel
theorem dX12_happens_136 : decode cX12_happens 136 = .ok (.aload_n 0, 1) := by decide +kernel
theorem dX12_happens_137 : decode cX12_happens 137 = .ok (.iload_n 2, 1) := by decide +kernel
theorem dX12_happens_138 : decode cX12_happens 138 = .ok (.bipush 20, 2) := by decide +kernel
theorem dX12_happens_140 : decode cX12_happens 140 = .ok (.iload_n 1, 1) := by decide +kernel
theorem dX12_happens_141 : decode cX12_happens 141 = .ok (.bipush 30, 2) := by decide +kernel
theorem dX12_happens_143 : decode cX12_happens 143 = .ok (.irem, 1) := by decide +kernel
theorem dX12_happens_144 : decode cX12_happens 144 = .ok (.iadd, 1) := by decide +kernel
theorem dX12_happens_145 : decode cX12_happens 145 = .ok (.invokevirtual 367, 3) := by decide +kernel
theorem dX12_happens_148 : decode cX12_happens 148 = .ok (.ifCond .eq 15, 3) := by decide +kernel
theorem dX12_happens_151 : decode cX12_happens 151 = .ok (.aload_n 0, 1) := by decide +kernel
theorem dX12_happens_152 : decode cX12_happens 152 = .ok (.iload_n 2, 1) := by decide +kernel
theorem dX12_happens_153 : decode cX12_happens 153 = .ok (.bipush 20, 2) := by decide +kernel
theorem dX12_happens_155 : decode cX12_happens 155 = .ok (.iload_n 1, 1) := by decide +kernel
theorem dX12_happens_156 : decode cX12_happens 156 = .ok (.bipush 30, 2) := by decide +kernel
theorem dX12_happens_158 : decode cX12_happens 158 = .ok (.irem, 1) := by decide +kernel
theorem dX12_happens_159 : decode cX12_happens 159 = .ok (.iadd, 1) := by decide +kernel
theorem dX12_happens_160 : decode cX12_happens 160 = .ok (.invokevirtual 370, 3) := by decide +kernel
theorem dX12_happens_163 : decode cX12_happens 163 = .ok (.return_, 1) := by decide +kernel
theorem dX12_years_0 : decode cX12_years 0 = .ok (.iload_n 1, 1) := by decide +kernel
theorem dX12_years_1 : decode cX12_years 1 = .ok (.iconst 0, 1) := by decide +kernel
theorem dX12_years_2 : decode cX12_years 2 = .ok (.sipush 9999, 3) := by decide +kernel
theorem dX12_years_5 : decode cX12_years 5 = .ok (.invokestatic 60, 3) := by decide +kernel
theorem dX12_years_8 : decode cX12_years 8 = .ok (.ifCond .eq 13, 3) := by decide +kernel
theorem dX12_years_11 : decode cX12_years 11 = .ok (.iload_n 2, 1) := by decide +kernel
theorem dX12_years_12 : decode cX12_years 12 = .ok (.iconst 1, 1) := by decide +kernel
theorem dX12_years_13 : decode cX12_years 13 = .ok (.bipush 40, 2) := by decide +kernel
theorem dX12_years_15 : decode cX12_years 15 = .ok (.invokestatic 60, 3) := by decide +kernel
theorem dX12_years_18 : decode cX12_years 18 = .ok (.ifCond .ne 5, 3) := by decide +kernel
theorem dX12_years_21 : decode cX12_years 21 = .ok (.iconst (-1), 1) := by decide +kernel
theorem dX12_years_22 : decode cX12_years 22 = .ok (.ireturn, 1) := by decide +kernel
theorem dX12_years_23 : decode cX12_years 23 = .ok (.aload_n 0, 1) := by decide +kernel
theorem dX12_years_24 : decode cX12_years 24 = .ok (.invokevirtual 358, 3) := by decide +kernel
theorem dX12_years_27 : decode cX12_years 27 = .ok (.aload_n 0, 1) := by decide +kernel
theorem dX12_years_28 : decode cX12_years 28 = .ok (.getfield 7, 3) := by decide +kernel
theorem dX12_years_31 : decode cX12_years 31 = .ok (.bipush 9, 2) := by decide +kernel
theorem dX12_years_33 : decode cX12_years 33 = .ok (.iload_n 1, 1) := by decide +kernel
theorem dX12_years_34 : decode cX12_years 34 = .ok (.iconst 2, 1) := by decide +kernel
theorem dX12_years_35 : decode cX12_years 35 = .ok (.imul, 1) := by decide +kernel
theorem dX12_years_36 : decode cX12_years 36 = .ok (.sipush 211, 3) := by decide +kernel
theorem dX12_years_39 : decode cX12_years 39 = .ok (.iadd, 1) := by decide +kernel
theorem dX12_years_40 : decode cX12_years 40 = .ok (.iastore, 1) := by decide +kernel
theorem dX12_years_41 : decode cX12_years 41 = .ok (.iconst 0, 1) := by decide +kernel
theorem dX12_years_42 : decode cX12_years 42 = .ok (.istore_n 3, 1) := by decide +kernel
theorem dX12_years_43 : decode cX12_years 43 = .ok (.iload_n 3, 1) := by decide +kernel
theorem dX12_years_44 : decode cX12_years 44 = .ok (.iload_n 2, 1) := by decide +kernel
theorem dX12_years_45 : decode cX12_years 45 = .ok (.if_icmp .ge 28, 3) := by decide +kernel
theorem dX12_years_48 : decode cX12_years 48 = .ok (.aload_n 0, 1) := by decide +kernel
theorem dX12_years_49 : decode cX12_years 49 = .ok (.getfield 7, 3) := by decide +kernel
theorem dX12_years_52 : decode cX12_years 52 = .ok (.bipush 9, 2) := by decide +kernel
theorem dX12_years_54 : decode cX12_years 54 = .ok (.iaload, 1) := by decide +kernel
theorem dX12_years_55 : decode cX12_years 55 = .ok (.istore 4, 2) := by decide +kernel
theorem dX12_years_57 : decode cX12_years 57 = .ok (.aload_n 0, 1) := by decide +kernel
theorem dX12_years_58 : decode cX12_years 58 = .ok (.invokevirtual 340, 3) := by decide +kernel
theorem dX12_years_61 : decode cX12_years 61 = .ok (.aload_n 0, 1) := by decide +kernel
theorem dX12_years_62 : decode cX12_years 62 = .ok (.iload 4, 2) := by decide +kernel
theorem dX12_years_64 : decode cX12_years 64 = .ok (.invokevirtual 403, 3) := by decide +kernel
theorem dX12_years_67 : decode cX12_years 67 = .ok (.iinc 3 1, 3) := by decide +kernel
theorem dX12_years_70 : decode cX12_years 70 = .ok (.goto (-27), 3) := by decide +kernel
theorem dX12_years_73 : decode cX12_years 73 = .ok (.aload_n 0, 1) := by decide +kernel
theorem dX12_years_74 : decode cX12_years 74 = .ok (.getfield 7, 3) := by decide +kernel
theorem dX12_years_77 : decode cX12_years 77 = .ok (.bipush 7, 2) := by decide +kernel
theorem dX12_years_79 : decode cX12_years 79 = .ok (.iaload, 1) := by decide +kernel
theorem dX12_years_80 : decode cX12_years 80 = .ok (.ireturn, 1) := by decide +kernel
theorem dX12_of_0 : decode cX12_of 0 = .ok (.aload_n 0, 1) := by decide +kernel
theorem dX12_of_1 : decode cX12_of 1 = .ok (.iload_n 1, 1) := by decide +kernel
theorem dX12_of_2 : decode cX12_of 2 = .ok (.invokevirtual 64, 3) := by decide +kernel
theorem dX12_of_5 : decode cX12_of 5 = .ok (.ifCond .ne 6, 3) := by decide +kernel
theorem dX12_of_8 : decode cX12_of 8 = .ok (.bipush (-2), 2) := by decide +kernel
theorem dX12_of_10 : decode cX12_of 10 = .ok (.ireturn, 1) := by decide +kernel
theorem dX12_of_11 : decode cX12_of 11 = .ok (.aload_n 0, 1) := by decide +kernel
theorem dX12_of_12 : decode cX12_of 12 = .ok (.iload_n 1, 1) := by decide +kernel
theorem dX12_of_13 : decode cX12_of 13 = .ok (.invokevirtual 337, 3) := by decide +kernel
theorem dX12_of_16 : decode cX12_of 16 = .ok (.ifCond .eq 11, 3) := by decide +kernel
theorem dX12_of_19 : decode cX12_of 19 = .ok (.aload_n 0, 1) := by decide +kernel
theorem dX12_of_20 : decode cX12_of 20 = .ok (.iload_n 1, 1) := by decide +kernel
theorem dX12_of_21 : decode cX12_of 21 = .ok (.invokevirtual 325, 3) := by decide +kernel
theorem dX12_of_24 : decode cX12_of 24 = .ok (.goto 4, 3) := by decide +kernel
theorem dX12_of_27 : decode cX12_of 27 = .ok (.iconst (-1), 1) := by decide +kernel
theorem dX12_of_28 : decode cX12_of 28 = .ok (.istore_n 3, 1) := by decide +kernel
theorem dX12_of_29 : decode cX12_of 29 = .ok (.iload_n 2, 1) := by decide +kernel
theorem dX12_of_30 : decode cX12_of 30 = .ok (.tableswitch 110 0 7 #[46, 53, 60, 67, 74, 80, 92, 94], 46) := by decide +kernel
theorem dX12_of_76 : decode cX12_of 76 = .ok (.aload_n 0, 1) := by decide +kernel
theorem dX12_of_77 : decode cX12_of 77 = .ok (.iload_n 1, 1) := by decide +kernel
theorem dX12_of_78 : decode cX12_of 78 = .ok (.iconst 0, 1) := by decide +kernel
theorem dX12_of_79 : decode cX12_of 79 = .ok (.invokevirtual 68, 3) := by decide +kernel
theorem dX12_of_82 : decode cX12_of 82 = .ok (.ireturn, 1) := by decide +kernel
theorem dX12_of_83 : decode cX12_of 83 = .ok (.aload_n 0, 1) := by decide +kernel
theorem dX12_of_84 : decode cX12_of 84 = .ok (.iload_n 1, 1) := by decide +kernel
theorem dX12_of_85 : decode cX12_of 85 = .ok (.iconst 2, 1) := by decide +kernel
theorem dX12_of_86 : decode cX12_of 86 = .ok (.invokevirtual 68, 3) := by decide +kernel
theorem dX12_of_89 : decode cX12_of 89 = .ok (.ireturn, 1) := by decide +kernel
theorem dX12_of_90 : decode cX12_of 90 = .ok (.aload_n 0, 1) := by decide +kernel
theorem dX12_of_91 : decode cX12_of 91 = .ok (.iload_n 1, 1) := by decide +kernel
theorem dX12_of_92 : decode cX12_of 92 = .ok (.iconst 3, 1) := by decide +kernel
theorem dX12_of_93 : decode cX12_of 93 = .ok (.invokevirtual 68, 3) := by decide +kernel
theorem dX12_of_96 : decode cX12_of 96 = .ok (.ireturn, 1) := by decide +kernel
theorem dX12_of_97 : decode cX12_of 97 = .ok (.aload_n 0, 1) := by decide +kernel
theorem dX12_of_98 : decode cX12_of 98 = .ok (.iload_n 1, 1) := by decide +kernel
theorem dX12_of_99 : decode cX12_of 99 = .ok (.iconst 1, 1) := by decide +kernel
theorem dX12_of_100 : decode cX12_of 100 = .ok (.invokevirtual 68, 3) := by decide +kernel
theorem dX12_of_103 : decode cX12_of 103 = .ok (.ireturn, 1) := by decide +kernel
theorem dX12_of_104 : decode cX12_of 104 = .ok (.aload_n 0, 1) := by decide +kernel
theorem dX12_of_105 : decode cX12_of 105 = .ok (.iload_n 1, 1) := by decide +kernel
theorem dX12_of_106 : decode cX12_of 106 = .ok (.invokevirtual 322, 3) := by decide +kernel
theorem dX12_of_109 : decode cX12_of 109 = .ok (.ireturn, 1) := by decide +kernel
theorem dX12_of_110 : decode cX12_of 110 = .ok (.aload_n 0, 1) := by decide +kernel
theorem dX12_of_111 : decode cX12_of 111 = .ok (.aload_n 0, 1) := by decide +kernel
theorem dX12_of_112 : decode cX12_of 112 = .ok (.getfield 7, 3) := by decide +kernel
theorem dX12_of_115 : decode cX12_of 115 = .ok (.iconst 3, 1) := by decide +kernel
theorem dX12_of_116 : decode cX12_of 116 = .ok (.iaload, 1) := by decide +kernel
theorem dX12_of_117 : decode cX12_of 117 = .ok (.iload_n 1, 1) := by decide +kernel
theorem dX12_of_118 : decode cX12_of 118 = .ok (.invokevirtual 343, 3) := by decide +kernel
theorem dX12_of_121 : decode cX12_of 121 = .ok (.ireturn, 1) := by decide +kernel
theorem dX12_of_122 : decode cX12_of 122 = .ok (.iload_n 3, 1) := by decide +kernel
theorem dX12_of_123 : decode cX12_of 123 = .ok (.ireturn, 1) := by decide +kernel
theorem dX12_of_124 : decode cX12_of 124 = .ok (.iload_n 3, 1) := by decide +kernel
theorem dX12_of_125 : decode cX12_of 125 = .ok (.iconst (-1), 1) := by decide +kernel
theorem dX12_of_126 : decode cX12_of 126 = .ok (.if_icmp .ne 7, 3) := by decide +kernel
theorem dX12_of_129 : decode cX12_of 129 = .ok (.iconst (-1), 1) := by decide +kernel
theorem dX12_of_130 : decode cX12_of 130 = .ok (.goto 9, 3) := by decide +kernel
theorem dX12_of_133 : decode cX12_of 133 = .ok (.aload_n 0, 1) := by decide +kernel
theorem dX12_of_134 : decode cX12_of 134 = .ok (.iload_n 1, 1) := by decide +kernel
theorem dX12_of_135 : decode cX12_of 135 = .ok (.iload_n 3, 1) := by decide +kernel
theorem dX12_of_136 : decode cX12_of 136 = .ok (.invokevirtual 328, 3) := by decide +kernel
theorem dX12_of_139 : decode cX12_of 139 = .ok (.ireturn, 1) := by decide +kernel
theorem dX12_of_140 : decode cX12_of 140 = .ok (.bipush (-2), 2) := by decide +kernel
theorem dX12_of_142 : decode cX12_of 142 = .ok (.ireturn, 1) := by decide +kernel
theorem dX12_ofBidder_0 : decode cX12_ofBidder 0 = .ok (.aload_n 0, 1) := by decide +kernel
theorem dX12_ofBidder_1 : decode cX12_ofBidder 1 = .ok (.iload_n 1, 1) := by decide +kernel
theorem dX12_ofBidder_2 : decode cX12_ofBidder 2 = .ok (.invokevirtual 82, 3) := by decide +kernel
theorem dX12_ofBidder_5 : decode cX12_ofBidder 5 = .ok (.ifCond .eq 12, 3) := by decide +kernel
theorem dX12_ofBidder_8 : decode cX12_ofBidder 8 = .ok (.iload_n 2, 1) := by decide +kernel
theorem dX12_ofBidder_9 : decode cX12_ofBidder 9 = .ok (.iconst 0, 1) := by decide +kernel
theorem dX12_ofBidder_10 : decode cX12_ofBidder 10 = .ok (.iconst 2, 1) := by decide +kernel
theorem dX12_ofBidder_11 : decode cX12_ofBidder 11 = .ok (.invokestatic 60, 3) := by decide +kernel
theorem dX12_ofBidder_14 : decode cX12_ofBidder 14 = .ok (.ifCond .ne 6, 3) := by decide +kernel
theorem dX12_ofBidder_17 : decode cX12_ofBidder 17 = .ok (.bipush (-2), 2) := by decide +kernel
theorem dX12_ofBidder_19 : decode cX12_ofBidder 19 = .ok (.ireturn, 1) := by decide +kernel
theorem dX12_ofBidder_20 : decode cX12_ofBidder 20 = .ok (.iconst 0, 1) := by decide +kernel
theorem dX12_ofBidder_21 : decode cX12_ofBidder 21 = .ok (.istore_n 3, 1) := by decide +kernel
theorem dX12_ofBidder_22 : decode cX12_ofBidder 22 = .ok (.iconst 0, 1) := by decide +kernel
theorem dX12_ofBidder_23 : decode cX12_ofBidder 23 = .ok (.istore 4, 2) := by decide +kernel
theorem dX12_ofBidder_25 : decode cX12_ofBidder 25 = .ok (.iload 4, 2) := by decide +kernel
theorem dX12_ofBidder_27 : decode cX12_ofBidder 27 = .ok (.aload_n 0, 1) := by decide +kernel
theorem dX12_ofBidder_28 : decode cX12_ofBidder 28 = .ok (.getfield 7, 3) := by decide +kernel
theorem dX12_ofBidder_31 : decode cX12_ofBidder 31 = .ok (.iconst 0, 1) := by decide +kernel
theorem dX12_ofBidder_32 : decode cX12_ofBidder 32 = .ok (.iaload, 1) := by decide +kernel
theorem dX12_ofBidder_33 : decode cX12_ofBidder 33 = .ok (.if_icmp .ge 38, 3) := by decide +kernel
theorem dX12_ofBidder_36 : decode cX12_ofBidder 36 = .ok (.iload_n 3, 1) := by decide +kernel
theorem dX12_ofBidder_37 : decode cX12_ofBidder 37 = .ok (.aload_n 0, 1) := by decide +kernel
theorem dX12_ofBidder_38 : decode cX12_ofBidder 38 = .ok (.iload_n 1, 1) := by decide +kernel
theorem dX12_ofBidder_39 : decode cX12_ofBidder 39 = .ok (.invokevirtual 302, 3) := by decide +kernel
theorem dX12_ofBidder_42 : decode cX12_ofBidder 42 = .ok (.iload 4, 2) := by decide +kernel
theorem dX12_ofBidder_44 : decode cX12_ofBidder 44 = .ok (.invokestatic 249, 3) := by decide +kernel
theorem dX12_ofBidder_47 : decode cX12_ofBidder 47 = .ok (.ifCond .eq 15, 3) := by decide +kernel
theorem dX12_ofBidder_50 : decode cX12_ofBidder 50 = .ok (.aload_n 0, 1) := by decide +kernel
theorem dX12_ofBidder_51 : decode cX12_ofBidder 51 = .ok (.iload_n 1, 1) := by decide +kernel
theorem dX12_ofBidder_52 : decode cX12_ofBidder 52 = .ok (.iconst 1, 1) := by decide +kernel
theorem dX12_ofBidder_53 : decode cX12_ofBidder 53 = .ok (.iload 4, 2) := by decide +kernel
theorem dX12_ofBidder_55 : decode cX12_ofBidder 55 = .ok (.iadd, 1) := by decide +kernel
theorem dX12_ofBidder_56 : decode cX12_ofBidder 56 = .ok (.invokevirtual 299, 3) := by decide +kernel
theorem dX12_ofBidder_59 : decode cX12_ofBidder 59 = .ok (.goto 4, 3) := by decide +kernel
theorem dX12_ofBidder_62 : decode cX12_ofBidder 62 = .ok (.iconst 0, 1) := by decide +kernel
theorem dX12_ofBidder_63 : decode cX12_ofBidder 63 = .ok (.iadd, 1) := by decide +kernel
theorem dX12_ofBidder_64 : decode cX12_ofBidder 64 = .ok (.istore_n 3, 1) := by decide +kernel
theorem dX12_ofBidder_65 : decode cX12_ofBidder 65 = .ok (.iinc 4 1, 3) := by decide +kernel
theorem dX12_ofBidder_68 : decode cX12_ofBidder 68 = .ok (.goto (-43), 3) := by decide +kernel
theorem dX12_ofBidder_71 : decode cX12_ofBidder 71 = .ok (.iload_n 2, 1) := by decide +kernel
theorem dX12_ofBidder_72 : decode cX12_ofBidder 72 = .ok (.ifCond .ne 12, 3) := by decide +kernel
theorem dX12_ofBidder_75 : decode cX12_ofBidder 75 = .ok (.aload_n 0, 1) := by decide +kernel
theorem dX12_ofBidder_76 : decode cX12_ofBidder 76 = .ok (.iload_n 1, 1) := by decide +kernel
theorem dX12_ofBidder_77 : decode cX12_ofBidder 77 = .ok (.iconst 0, 1) := by decide +kernel
theorem dX12_ofBidder_78 : decode cX12_ofBidder 78 = .ok (.invokevirtual 299, 3) := by decide +kernel
theorem dX12_ofBidder_81 : decode cX12_ofBidder 81 = .ok (.goto 17, 3) := by decide +kernel
theorem dX12_ofBidder_84 : decode cX12_ofBidder 84 = .ok (.iload_n 2, 1) := by decide +kernel
theorem dX12_ofBidder_85 : decode cX12_ofBidder 85 = .ok (.iconst 1, 1) := by decide +kernel
theorem dX12_ofBidder_86 : decode cX12_ofBidder 86 = .ok (.if_icmp .ne 11, 3) := by decide +kernel
theorem dX12_ofBidder_89 : decode cX12_ofBidder 89 = .ok (.aload_n 0, 1) := by decide +kernel
theorem dX12_ofBidder_90 : decode cX12_ofBidder 90 = .ok (.iload_n 1, 1) := by decide +kernel
theorem dX12_ofBidder_91 : decode cX12_ofBidder 91 = .ok (.invokevirtual 302, 3) := by decide +kernel
theorem dX12_ofBidder_94 : decode cX12_ofBidder 94 = .ok (.goto 4, 3) := by decide +kernel
theorem dX12_ofBidder_97 : decode cX12_ofBidder 97 = .ok (.iload_n 3, 1) := by decide +kernel
theorem dX12_ofBidder_98 : decode cX12_ofBidder 98 = .ok (.ireturn, 1) := by decide +kernel
theorem dX12_bids_0 : decode cX12_bids 0 = .ok (.aload_n 0, 1) := by decide +kernel
theorem dX12_bids_1 : decode cX12_bids 1 = .ok (.iload_n 1, 1) := by decide +kernel
theorem dX12_bids_2 : decode cX12_bids 2 = .ok (.invokevirtual 82, 3) := by decide +kernel
theorem dX12_bids_5 : decode cX12_bids 5 = .ok (.ifCond .eq 20, 3) := by decide +kernel
theorem dX12_bids_8 : decode cX12_bids 8 = .ok (.aload_n 0, 1) := by decide +kernel
theorem dX12_bids_9 : decode cX12_bids 9 = .ok (.iload_n 2, 1) := by decide +kernel
theorem dX12_bids_10 : decode cX12_bids 10 = .ok (.invokevirtual 64, 3) := by decide +kernel
theorem dX12_bids_13 : decode cX12_bids 13 = .ok (.ifCond .eq 12, 3) := by decide +kernel
theorem dX12_bids_16 : decode cX12_bids 16 = .ok (.aload_n 0, 1) := by decide +kernel
theorem dX12_bids_17 : decode cX12_bids 17 = .ok (.iload_n 1, 1) := by decide +kernel
theorem dX12_bids_18 : decode cX12_bids 18 = .ok (.iload_n 2, 1) := by decide +kernel
theorem dX12_bids_19 : decode cX12_bids 19 = .ok (.invokevirtual 319, 3) := by decide +kernel
theorem dX12_bids_22 : decode cX12_bids 22 = .ok (.goto 4, 3) := by decide +kernel
theorem dX12_bids_25 : decode cX12_bids 25 = .ok (.iconst (-1), 1) := by decide +kernel
theorem dX12_bids_26 : decode cX12_bids 26 = .ok (.ireturn, 1) := by decide +kernel
theorem dX12_lotsAt_0 : decode cX12_lotsAt 0 = .ok (.iconst 0, 1) := by decide +kernel
theorem dX12_lotsAt_1 : decode cX12_lotsAt 1 = .ok (.istore_n 2, 1) := by decide +kernel
theorem dX12_lotsAt_2 : decode cX12_lotsAt 2 = .ok (.iconst 0, 1) := by decide +kernel
theorem dX12_lotsAt_3 : decode cX12_lotsAt 3 = .ok (.istore_n 3, 1) := by decide +kernel
theorem dX12_lotsAt_4 : decode cX12_lotsAt 4 = .ok (.iload_n 3, 1) := by decide +kernel
theorem dX12_lotsAt_5 : decode cX12_lotsAt 5 = .ok (.aload_n 0, 1) := by decide +kernel
theorem dX12_lotsAt_6 : decode cX12_lotsAt 6 = .ok (.getfield 7, 3) := by decide +kernel
theorem dX12_lotsAt_9 : decode cX12_lotsAt 9 = .ok (.iconst 0, 1) := by decide +kernel
theorem dX12_lotsAt_10 : decode cX12_lotsAt 10 = .ok (.iaload, 1) := by decide +kernel
theorem dX12_lotsAt_11 : decode cX12_lotsAt 11 = .ok (.if_icmp .ge 37, 3) := by decide +kernel
theorem dX12_lotsAt_14 : decode cX12_lotsAt 14 = .ok (.iload_n 2, 1) := by decide +kernel
theorem dX12_lotsAt_15 : decode cX12_lotsAt 15 = .ok (.aload_n 0, 1) := by decide +kernel
theorem dX12_lotsAt_16 : decode cX12_lotsAt 16 = .ok (.iload_n 3, 1) := by decide +kernel
theorem dX12_lotsAt_17 : decode cX12_lotsAt 17 = .ok (.invokevirtual 337, 3) := by decide +kernel
theorem dX12_lotsAt_20 : decode cX12_lotsAt 20 = .ok (.ifCond .eq 19, 3) := by decide +kernel
theorem dX12_lotsAt_23 : decode cX12_lotsAt 23 = .ok (.aload_n 0, 1) := by decide +kernel
theorem dX12_lotsAt_24 : decode cX12_lotsAt 24 = .ok (.iload_n 3, 1) := by decide +kernel
theorem dX12_lotsAt_25 : decode cX12_lotsAt 25 = .ok (.iconst 0, 1) := by decide +kernel
theorem dX12_lotsAt_26 : decode cX12_lotsAt 26 = .ok (.invokevirtual 68, 3) := by decide +kernel
theorem dX12_lotsAt_29 : decode cX12_lotsAt 29 = .ok (.iload_n 1, 1) := by decide +kernel
theorem dX12_lotsAt_30 : decode cX12_lotsAt 30 = .ok (.if_icmp .ne 9, 3) := by decide +kernel
theorem dX12_lotsAt_33 : decode cX12_lotsAt 33 = .ok (.iconst 1, 1) := by decide +kernel
theorem dX12_lotsAt_34 : decode cX12_lotsAt 34 = .ok (.iload_n 3, 1) := by decide +kernel
theorem dX12_lotsAt_35 : decode cX12_lotsAt 35 = .ok (.ishl, 1) := by decide +kernel
theorem dX12_lotsAt_36 : decode cX12_lotsAt 36 = .ok (.goto 4, 3) := by decide +kernel
theorem dX12_lotsAt_39 : decode cX12_lotsAt 39 = .ok (.iconst 0, 1) := by decide +kernel
theorem dX12_lotsAt_40 : decode cX12_lotsAt 40 = .ok (.ior, 1) := by decide +kernel
theorem dX12_lotsAt_41 : decode cX12_lotsAt 41 = .ok (.istore_n 2, 1) := by decide +kernel
theorem dX12_lotsAt_42 : decode cX12_lotsAt 42 = .ok (.iinc 3 1, 3) := by decide +kernel
theorem dX12_lotsAt_45 : decode cX12_lotsAt 45 = .ok (.goto (-41), 3) := by decide +kernel
theorem dX12_lotsAt_48 : decode cX12_lotsAt 48 = .ok (.iload_n 2, 1) := by decide +kernel
theorem dX12_lotsAt_49 : decode cX12_lotsAt 49 = .ok (.ireturn, 1) := by decide +kernel
theorem dX12_is_0 : decode cX12_is 0 = .ok (.iload_n 1, 1) := by decide +kernel
theorem dX12_is_1 : decode cX12_is 1 = .ok (.iconst 0, 1) := by decide +kernel
theorem dX12_is_2 : decode cX12_is 2 = .ok (.iconst 2, 1) := by decide +kernel
theorem dX12_is_3 : decode cX12_is 3 = .ok (.invokestatic 60, 3) := by decide +kernel
theorem dX12_is_6 : decode cX12_is 6 = .ok (.ifCond .eq 15, 3) := by decide +kernel
theorem dX12_is_9 : decode cX12_is 9 = .ok (.aload_n 0, 1) := by decide +kernel
theorem dX12_is_10 : decode cX12_is 10 = .ok (.getfield 7, 3) := by decide +kernel
theorem dX12_is_13 : decode cX12_is 13 = .ok (.bipush 7, 2) := by decide +kernel
theorem dX12_is_15 : decode cX12_is 15 = .ok (.iload_n 1, 1) := by decide +kernel
theorem dX12_is_16 : decode cX12_is 16 = .ok (.iadd, 1) := by decide +kernel
theorem dX12_is_17 : decode cX12_is 17 = .ok (.iaload, 1) := by decide +kernel
theorem dX12_is_18 : decode cX12_is 18 = .ok (.goto 33, 3) := by decide +kernel
theorem dX12_is_21 : decode cX12_is 21 = .ok (.iload_n 1, 1) := by decide +kernel
theorem dX12_is_22 : decode cX12_is 22 = .ok (.iconst 3, 1) := by decide +kernel
theorem dX12_is_23 : decode cX12_is 23 = .ok (.if_icmp .ne 10, 3) := by decide +kernel
theorem dX12_is_26 : decode cX12_is 26 = .ok (.aload_n 0, 1) := by decide +kernel
theorem dX12_is_27 : decode cX12_is 27 = .ok (.invokevirtual 349, 3) := by decide +kernel
theorem dX12_is_30 : decode cX12_is 30 = .ok (.goto 21, 3) := by decide +kernel
theorem dX12_is_33 : decode cX12_is 33 = .ok (.iload_n 1, 1) := by decide +kernel
theorem dX12_is_34 : decode cX12_is 34 = .ok (.iconst 4, 1) := by decide +kernel
theorem dX12_is_35 : decode cX12_is 35 = .ok (.if_icmp .ne 14, 3) := by decide +kernel
theorem dX12_is_38 : decode cX12_is 38 = .ok (.aload_n 0, 1) := by decide +kernel
theorem dX12_is_39 : decode cX12_is 39 = .ok (.aload_n 0, 1) := by decide +kernel
theorem dX12_is_40 : decode cX12_is 40 = .ok (.invokevirtual 349, 3) := by decide +kernel
theorem dX12_is_43 : decode cX12_is 43 = .ok (.invokevirtual 406, 3) := by decide +kernel
theorem dX12_is_46 : decode cX12_is 46 = .ok (.goto 5, 3) := by decide +kernel
theorem dX12_is_49 : decode cX12_is 49 = .ok (.bipush (-2), 2) := by decide +kernel
theorem dX12_is_51 : decode cX12_is 51 = .ok (.ireturn, 1) := by decide +kernel
theorem dX12_left_0 : decode cX12_left 0 = .ok (.iload_n 1, 1) := by decide +kernel
theorem dX12_left_1 : decode cX12_left 1 = .ok (.invokestatic 72, 3) := by decide +kernel
theorem dX12_left_4 : decode cX12_left 4 = .ok (.ifCond .eq 11, 3) := by decide +kernel
theorem dX12_left_7 : decode cX12_left 7 = .ok (.aload_n 0, 1) := by decide +kernel
theorem dX12_left_8 : decode cX12_left 8 = .ok (.iload_n 1, 1) := by decide +kernel
theorem dX12_left_9 : decode cX12_left 9 = .ok (.invokevirtual 406, 3) := by decide +kernel
theorem dX12_left_12 : decode cX12_left 12 = .ok (.goto 4, 3) := by decide +kernel
theorem dX12_left_15 : decode cX12_left 15 = .ok (.iconst (-1), 1) := by decide +kernel
theorem dX12_left_16 : decode cX12_left 16 = .ok (.ireturn, 1) := by decide +kernel
theorem dX12_book_0 : decode cX12_book 0 = .ok (.iload_n 1, 1) := by decide +kernel
theorem dX12_book_1 : decode cX12_book 1 = .ok (.iconst (-1), 1) := by decide +kernel
theorem dX12_book_2 : decode cX12_book 2 = .ok (.if_icmp .ne 11, 3) := by decide +kernel
theorem dX12_book_5 : decode cX12_book 5 = .ok (.aload_n 0, 1) := by decide +kernel
theorem dX12_book_6 : decode cX12_book 6 = .ok (.getfield 7, 3) := by decide +kernel
theorem dX12_book_9 : decode cX12_book 9 = .ok (.bipush 10, 2) := by decide +kernel
theorem dX12_book_11 : decode cX12_book 11 = .ok (.iaload, 1) := by decide +kernel
theorem dX12_book_12 : decode cX12_book 12 = .ok (.ireturn, 1) := by decide +kernel
theorem dX12_book_13 : decode cX12_book 13 = .ok (.iload_n 1, 1) := by decide +kernel
theorem dX12_book_14 : decode cX12_book 14 = .ok (.iconst 0, 1) := by decide +kernel
theorem dX12_book_15 : decode cX12_book 15 = .ok (.aload_n 0, 1) := by decide +kernel
theorem dX12_book_16 : decode cX12_book 16 = .ok (.getfield 7, 3) := by decide +kernel
theorem dX12_book_19 : decode cX12_book 19 = .ok (.bipush 10, 2) := by decide +kernel
theorem dX12_book_21 : decode cX12_book 21 = .ok (.iaload, 1) := by decide +kernel
theorem dX12_book_22 : decode cX12_book 22 = .ok (.iconst 1, 1) := by decide +kernel
theorem dX12_book_23 : decode cX12_book 23 = .ok (.isub, 1) := by decide +kernel
theorem dX12_book_24 : decode cX12_book 24 = .ok (.invokestatic 60, 3) := by decide +kernel
theorem dX12_book_27 : decode cX12_book 27 = .ok (.ifCond .ne 6, 3) := by decide +kernel
theorem dX12_book_30 : decode cX12_book 30 = .ok (.bipush (-2), 2) := by decide +kernel
theorem dX12_book_32 : decode cX12_book 32 = .ok (.ireturn, 1) := by decide +kernel
theorem dX12_book_33 : decode cX12_book 33 = .ok (.aload_n 0, 1) := by decide +kernel
theorem dX12_book_34 : decode cX12_book 34 = .ok (.getfield 7, 3) := by decide +kernel
theorem dX12_book_37 : decode cX12_book 37 = .ok (.sipush 4843, 3) := by decide +kernel
theorem dX12_book_40 : decode cX12_book 40 = .ok (.iconst 2, 1) := by decide +kernel
theorem dX12_book_41 : decode cX12_book 41 = .ok (.iload_n 1, 1) := by decide +kernel
theorem dX12_book_42 : decode cX12_book 42 = .ok (.imul, 1) := by decide +kernel
theorem dX12_book_43 : decode cX12_book 43 = .ok (.iadd, 1) := by decide +kernel
theorem dX12_book_44 : decode cX12_book 44 = .ok (.iaload, 1) := by decide +kernel
theorem dX12_book_45 : decode cX12_book 45 = .ok (.istore_n 3, 1) := by decide +kernel
theorem dX12_book_46 : decode cX12_book 46 = .ok (.iload_n 2, 1) := by decide +kernel
theorem dX12_book_47 : decode cX12_book 47 = .ok (.ifCond .ne 11, 3) := by decide +kernel
theorem dX12_book_50 : decode cX12_book 50 = .ok (.iload_n 3, 1) := by decide +kernel
theorem dX12_book_51 : decode cX12_book 51 = .ok (.sipush 128, 3) := by decide +kernel
theorem dX12_book_54 : decode cX12_book 54 = .ok (.idiv, 1) := by decide +kernel
theorem dX12_book_55 : decode cX12_book 55 = .ok (.goto 54, 3) := by decide +kernel
theorem dX12_book_58 : decode cX12_book 58 = .ok (.iload_n 2, 1) := by decide +kernel
theorem dX12_book_59 : decode cX12_book 59 = .ok (.iconst 1, 1) := by decide +kernel
theorem dX12_book_60 : decode cX12_book 60 = .ok (.if_icmp .ne 13, 3) := by decide +kernel
theorem dX12_book_63 : decode cX12_book 63 = .ok (.iload_n 3, 1) := by decide +kernel
theorem dX12_book_64 : decode cX12_book 64 = .ok (.bipush 8, 2) := by decide +kernel
theorem dX12_book_66 : decode cX12_book 66 = .ok (.idiv, 1) := by decide +kernel
theorem dX12_book_67 : decode cX12_book 67 = .ok (.bipush 16, 2) := by decide +kernel
theorem dX12_book_69 : decode cX12_book 69 = .ok (.irem, 1) := by decide +kernel
theorem dX12_book_70 : decode cX12_book 70 = .ok (.goto 39, 3) := by decide +kernel
theorem dX12_book_73 : decode cX12_book 73 = .ok (.iload_n 2, 1) := by decide +kernel
theorem dX12_book_74 : decode cX12_book 74 = .ok (.iconst 2, 1) := by decide +kernel
theorem dX12_book_75 : decode cX12_book 75 = .ok (.if_icmp .ne 10, 3) := by decide +kernel
theorem dX12_book_78 : decode cX12_book 78 = .ok (.iload_n 3, 1) := by decide +kernel
theorem dX12_book_79 : decode cX12_book 79 = .ok (.bipush 8, 2) := by decide +kernel
theorem dX12_book_81 : decode cX12_book 81 = .ok (.irem, 1) := by decide +kernel
theorem dX12_book_82 : decode cX12_book 82 = .ok (.goto 27, 3) := by decide +kernel
theorem dX12_book_85 : decode cX12_book 85 = .ok (.iload_n 2, 1) := by decide +kernel
theorem dX12_book_86 : decode cX12_book 86 = .ok (.iconst 3, 1) := by decide +kernel
theorem dX12_book_87 : decode cX12_book 87 = .ok (.if_icmp .ne 20, 3) := by decide +kernel
theorem dX12_book_90 : decode cX12_book 90 = .ok (.aload_n 0, 1) := by decide +kernel
theorem dX12_book_91 : decode cX12_book 91 = .ok (.getfield 7, 3) := by decide +kernel
theorem dX12_book_94 : decode cX12_book 94 = .ok (.sipush 4843, 3) := by decide +kernel
theorem dX12_book_97 : decode cX12_book 97 = .ok (.iconst 2, 1) := by decide +kernel
theorem dX12_book_98 : decode cX12_book 98 = .ok (.iload_n 1, 1) := by decide +kernel
theorem dX12_book_99 : decode cX12_book 99 = .ok (.imul, 1) := by decide +kernel
theorem dX12_book_100 : decode cX12_book 100 = .ok (.iadd, 1) := by decide +kernel
theorem dX12_book_101 : decode cX12_book 101 = .ok (.iconst 1, 1) := by decide +kernel
theorem dX12_book_102 : decode cX12_book 102 = .ok (.iadd, 1) := by decide +kernel
theorem dX12_book_103 : decode cX12_book 103 = .ok (.iaload, 1) := by decide +kernel
theorem dX12_book_104 : decode cX12_book 104 = .ok (.goto 5, 3) := by decide +kernel
theorem dX12_book_107 : decode cX12_book 107 = .ok (.bipush (-2), 2) := by decide +kernel
theorem dX12_book_109 : decode cX12_book 109 = .ok (.ireturn, 1) := by decide +kernel
theorem dX12_ledger_0 : decode cX12_ledger 0 = .ok (.iload_n 1, 1) := by decide +kernel
theorem dX12_ledger_1 : decode cX12_ledger 1 = .ok (.iconst (-1), 1) := by decide +kernel
theorem dX12_ledger_2 : decode cX12_ledger 2 = .ok (.if_icmp .eq 14, 3) := by decide +kernel
theorem dX12_ledger_5 : decode cX12_ledger 5 = .ok (.aload_n 0, 1) := by decide +kernel
theorem dX12_ledger_6 : decode cX12_ledger 6 = .ok (.iload_n 1, 1) := by decide +kernel
theorem dX12_ledger_7 : decode cX12_ledger 7 = .ok (.invokevirtual 82, 3) := by decide +kernel
theorem dX12_ledger_10 : decode cX12_ledger 10 = .ok (.ifCond .ne 6, 3) := by decide +kernel
theorem dX12_ledger_13 : decode cX12_ledger 13 = .ok (.bipush (-2), 2) := by decide +kernel
theorem dX12_ledger_15 : decode cX12_ledger 15 = .ok (.ireturn, 1) := by decide +kernel
theorem dX12_ledger_16 : decode cX12_ledger 16 = .ok (.iconst 0, 1) := by decide +kernel
theorem dX12_ledger_17 : decode cX12_ledger 17 = .ok (.istore_n 2, 1) := by decide +kernel
theorem dX12_ledger_18 : decode cX12_ledger 18 = .ok (.iconst 0, 1) := by decide +kernel
theorem dX12_ledger_19 : decode cX12_ledger 19 = .ok (.istore_n 3, 1) := by decide +kernel
theorem dX12_ledger_20 : decode cX12_ledger 20 = .ok (.iload_n 3, 1) := by decide +kernel
theorem dX12_ledger_21 : decode cX12_ledger 21 = .ok (.aload_n 0, 1) := by decide +kernel
theorem dX12_ledger_22 : decode cX12_ledger 22 = .ok (.getfield 7, 3) := by decide +kernel
theorem dX12_ledger_25 : decode cX12_ledger 25 = .ok (.bipush 10, 2) := by decide +kernel
theorem dX12_ledger_27 : decode cX12_ledger 27 = .ok (.iaload, 1) := by decide +kernel
theorem dX12_ledger_28 : decode cX12_ledger 28 = .ok (.if_icmp .ge 37, 3) := by decide +kernel
theorem dX12_ledger_31 : decode cX12_ledger 31 = .ok (.iload_n 2, 1) := by decide +kernel
theorem dX12_ledger_32 : decode cX12_ledger 32 = .ok (.iload_n 1, 1) := by decide +kernel
theorem dX12_ledger_33 : decode cX12_ledger 33 = .ok (.iconst (-1), 1) := by decide +kernel
theorem dX12_ledger_34 : decode cX12_ledger 34 = .ok (.if_icmp .eq 13, 3) := by decide +kernel
theorem dX12_ledger_37 : decode cX12_ledger 37 = .ok (.aload_n 0, 1) := by decide +kernel
theorem dX12_ledger_38 : decode cX12_ledger 38 = .ok (.iload_n 3, 1) := by decide +kernel
theorem dX12_ledger_39 : decode cX12_ledger 39 = .ok (.iconst 2, 1) := by decide +kernel
theorem dX12_ledger_40 : decode cX12_ledger 40 = .ok (.invokevirtual 409, 3) := by decide +kernel
theorem dX12_ledger_43 : decode cX12_ledger 43 = .ok (.iload_n 1, 1) := by decide +kernel
theorem dX12_ledger_44 : decode cX12_ledger 44 = .ok (.if_icmp .ne 12, 3) := by decide +kernel
theorem dX12_ledger_47 : decode cX12_ledger 47 = .ok (.aload_n 0, 1) := by decide +kernel
theorem dX12_ledger_48 : decode cX12_ledger 48 = .ok (.iload_n 3, 1) := by decide +kernel
theorem dX12_ledger_49 : decode cX12_ledger 49 = .ok (.iconst 3, 1) := by decide +kernel
theorem dX12_ledger_50 : decode cX12_ledger 50 = .ok (.invokevirtual 409, 3) := by decide +kernel
theorem dX12_ledger_53 : decode cX12_ledger 53 = .ok (.goto 4, 3) := by decide +kernel
theorem dX12_ledger_56 : decode cX12_ledger 56 = .ok (.iconst 0, 1) := by decide +kernel
theorem dX12_ledger_57 : decode cX12_ledger 57 = .ok (.iadd, 1) := by decide +kernel
theorem dX12_ledger_58 : decode cX12_ledger 58 = .ok (.istore_n 2, 1) := by decide +kernel
theorem dX12_ledger_59 : decode cX12_ledger 59 = .ok (.iinc 3 1, 3) := by decide +kernel
theorem dX12_ledger_62 : decode cX12_ledger 62 = .ok (.goto (-42), 3) := by decide +kernel
theorem dX12_ledger_65 : decode cX12_ledger 65 = .ok (.iload_n 2, 1) := by decide +kernel
theorem dX12_ledger_66 : decode cX12_ledger 66 = .ok (.ireturn, 1) := by decide +kernel
theorem dX12_richest_0 : decode cX12_richest 0 = .ok (.iconst (-1), 1) := by decide +kernel
theorem dX12_richest_1 : decode cX12_richest 1 = .ok (.istore_n 1, 1) := by decide +kernel
theorem dX12_richest_2 : decode cX12_richest 2 = .ok (.iconst 0, 1) := by decide +kernel
theorem dX12_richest_3 : decode cX12_richest 3 = .ok (.istore_n 2, 1) := by decide +kernel
theorem dX12_richest_4 : decode cX12_richest 4 = .ok (.iload_n 2, 1) := by decide +kernel
theorem dX12_richest_5 : decode cX12_richest 5 = .ok (.aload_n 0, 1) := by decide +kernel
theorem dX12_richest_6 : decode cX12_richest 6 = .ok (.getfield 7, 3) := by decide +kernel
theorem dX12_richest_9 : decode cX12_richest 9 = .ok (.iconst 1, 1) := by decide +kernel
theorem dX12_richest_10 : decode cX12_richest 10 = .ok (.iaload, 1) := by decide +kernel
theorem dX12_richest_11 : decode cX12_richest 11 = .ok (.if_icmp .ge 31, 3) := by decide +kernel
theorem dX12_richest_14 : decode cX12_richest 14 = .ok (.iload_n 1, 1) := by decide +kernel
theorem dX12_richest_15 : decode cX12_richest 15 = .ok (.iconst (-1), 1) := by decide +kernel
theorem dX12_richest_16 : decode cX12_richest 16 = .ok (.if_icmp .eq 18, 3) := by decide +kernel
theorem dX12_richest_19 : decode cX12_richest 19 = .ok (.aload_n 0, 1) := by decide +kernel
theorem dX12_richest_20 : decode cX12_richest 20 = .ok (.iload_n 2, 1) := by decide +kernel
theorem dX12_richest_21 : decode cX12_richest 21 = .ok (.iconst 0, 1) := by decide +kernel
theorem dX12_richest_22 : decode cX12_richest 22 = .ok (.invokevirtual 299, 3) := by decide +kernel
theorem dX12_richest_25 : decode cX12_richest 25 = .ok (.aload_n 0, 1) := by decide +kernel
theorem dX12_richest_26 : decode cX12_richest 26 = .ok (.iload_n 1, 1) := by decide +kernel
theorem dX12_richest_27 : decode cX12_richest 27 = .ok (.iconst 0, 1) := by decide +kernel
theorem dX12_richest_28 : decode cX12_richest 28 = .ok (.invokevirtual 299, 3) := by decide +kernel
theorem dX12_richest_31 : decode cX12_richest 31 = .ok (.if_icmp .le 5, 3) := by decide +kernel
theorem dX12_richest_34 : decode cX12_richest 34 = .ok (.iload_n 2, 1) := by decide +kernel
theorem dX12_richest_35 : decode cX12_richest 35 = .ok (.istore_n 1, 1) := by decide +kernel
theorem dX12_richest_36 : decode cX12_richest 36 = .ok (.iinc 2 1, 3) := by decide +kernel
theorem dX12_richest_39 : decode cX12_richest 39 = .ok (.goto (-35), 3) := by decide +kernel
theorem dX12_richest_42 : decode cX12_richest 42 = .ok (.iload_n 1, 1) := by decide +kernel
theorem dX12_richest_43 : decode cX12_richest 43 = .ok (.ireturn, 1) := by decide +kernel
theorem dX12_dearest_0 : decode cX12_dearest 0 = .ok (.iconst (-1), 1) := by decide +kernel
theorem dX12_dearest_1 : decode cX12_dearest 1 = .ok (.istore_n 1, 1) := by decide +kernel
theorem dX12_dearest_2 : decode cX12_dearest 2 = .ok (.iconst 0, 1) := by decide +kernel
theorem dX12_dearest_3 : decode cX12_dearest 3 = .ok (.istore_n 2, 1) := by decide +kernel
theorem dX12_dearest_4 : decode cX12_dearest 4 = .ok (.iconst 0, 1) := by decide +kernel
theorem dX12_dearest_5 : decode cX12_dearest 5 = .ok (.istore_n 3, 1) := by decide +kernel
theorem dX12_dearest_6 : decode cX12_dearest 6 = .ok (.iload_n 3, 1) := by decide +kernel
theorem dX12_dearest_7 : decode cX12_dearest 7 = .ok (.aload_n 0, 1) := by decide +kernel
theorem dX12_dearest_8 : decode cX12_dearest 8 = .ok (.getfield 7, 3) := by decide +kernel
theorem dX12_dearest_11 : decode cX12_dearest 11 = .ok (.iconst 0, 1) := by decide +kernel
theorem dX12_dearest_12 : decode cX12_dearest 12 = .ok (.iaload, 1) := by decide +kernel
theorem dX12_dearest_13 : decode cX12_dearest 13 = .ok (.if_icmp .ge 32, 3) := by decide +kernel
theorem dX12_dearest_16 : decode cX12_dearest 16 = .ok (.aload_n 0, 1) := by decide +kernel
theorem dX12_dearest_17 : decode cX12_dearest 17 = .ok (.iload_n 3, 1) := by decide +kernel
theorem dX12_dearest_18 : decode cX12_dearest 18 = .ok (.bipush 7, 2) := by decide +kernel
theorem dX12_dearest_20 : decode cX12_dearest 20 = .ok (.invokevirtual 412, 3) := by decide +kernel
theorem dX12_dearest_23 : decode cX12_dearest 23 = .ok (.istore 4, 2) := by decide +kernel
theorem dX12_dearest_25 : decode cX12_dearest 25 = .ok (.iload 4, 2) := by decide +kernel
theorem dX12_dearest_27 : decode cX12_dearest 27 = .ok (.iload_n 2, 1) := by decide +kernel
theorem dX12_dearest_28 : decode cX12_dearest 28 = .ok (.if_icmp .gt 6, 3) := by decide +kernel
theorem dX12_dearest_31 : decode cX12_dearest 31 = .ok (.goto 8, 3) := by decide +kernel
theorem dX12_dearest_34 : decode cX12_dearest 34 = .ok (.iload 4, 2) := by decide +kernel
theorem dX12_dearest_36 : decode cX12_dearest 36 = .ok (.istore_n 2, 1) := by decide +kernel
theorem dX12_dearest_37 : decode cX12_dearest 37 = .ok (.iload_n 3, 1) := by decide +kernel
theorem dX12_dearest_38 : decode cX12_dearest 38 = .ok (.istore_n 1, 1) := by decide +kernel
theorem dX12_dearest_39 : decode cX12_dearest 39 = .ok (.iinc 3 1, 3) := by decide +kernel
theorem dX12_dearest_42 : decode cX12_dearest 42 = .ok (.goto (-36), 3) := by decide +kernel
theorem dX12_dearest_45 : decode cX12_dearest 45 = .ok (.iload_n 1, 1) := by decide +kernel
theorem dX12_dearest_46 : decode cX12_dearest 46 = .ok (.ireturn, 1) := by decide +kernel
theorem dX12_setAside_0 : decode cX12_setAside 0 = .ok (.bipush 7, 2) := by decide +kernel
theorem dX12_setAside_2 : decode cX12_setAside 2 = .ok (.istore_n 1, 1) := by decide +kernel
theorem dX12_setAside_3 : decode cX12_setAside 3 = .ok (.iload_n 1, 1) := by decide +kernel
theorem dX12_setAside_4 : decode cX12_setAside 4 = .ok (.sipush 141, 3) := by decide +kernel
theorem dX12_setAside_7 : decode cX12_setAside 7 = .ok (.if_icmp .ge 21, 3) := by decide +kernel
theorem dX12_setAside_10 : decode cX12_setAside 10 = .ok (.aload_n 0, 1) := by decide +kernel
theorem dX12_setAside_11 : decode cX12_setAside 11 = .ok (.getfield 47, 3) := by decide +kernel
theorem dX12_setAside_14 : decode cX12_setAside 14 = .ok (.iload_n 1, 1) := by decide +kernel
theorem dX12_setAside_15 : decode cX12_setAside 15 = .ok (.aload_n 0, 1) := by decide +kernel
theorem dX12_setAside_16 : decode cX12_setAside 16 = .ok (.getfield 7, 3) := by decide +kernel
theorem dX12_setAside_19 : decode cX12_setAside 19 = .ok (.iload_n 1, 1) := by decide +kernel
theorem dX12_setAside_20 : decode cX12_setAside 20 = .ok (.iaload, 1) := by decide +kernel
theorem dX12_setAside_21 : decode cX12_setAside 21 = .ok (.iastore, 1) := by decide +kernel
theorem dX12_setAside_22 : decode cX12_setAside 22 = .ok (.iinc 1 1, 3) := by decide +kernel
theorem dX12_setAside_25 : decode cX12_setAside 25 = .ok (.goto (-22), 3) := by decide +kernel
theorem dX12_setAside_28 : decode cX12_setAside 28 = .ok (.aload_n 0, 1) := by decide +kernel
theorem dX12_setAside_29 : decode cX12_setAside 29 = .ok (.iconst 0, 1) := by decide +kernel
theorem dX12_setAside_30 : decode cX12_setAside 30 = .ok (.putfield 43, 3) := by decide +kernel
theorem dX12_setAside_33 : decode cX12_setAside 33 = .ok (.aload_n 0, 1) := by decide +kernel
theorem dX12_setAside_34 : decode cX12_setAside 34 = .ok (.iconst 0, 1) := by decide +kernel
theorem dX12_setAside_35 : decode cX12_setAside 35 = .ok (.putfield 331, 3) := by decide +kernel
theorem dX12_setAside_38 : decode cX12_setAside 38 = .ok (.return_, 1) := by decide +kernel
theorem dX12_putBack_0 : decode cX12_putBack 0 = .ok (.bipush 7, 2) := by decide +kernel
theorem dX12_putBack_2 : decode cX12_putBack 2 = .ok (.istore_n 1, 1) := by decide +kernel
theorem dX12_putBack_3 : decode cX12_putBack 3 = .ok (.iload_n 1, 1) := by decide +kernel
theorem dX12_putBack_4 : decode cX12_putBack 4 = .ok (.sipush 141, 3) := by decide +kernel
theorem dX12_putBack_7 : decode cX12_putBack 7 = .ok (.if_icmp .ge 21, 3) := by decide +kernel
theorem dX12_putBack_10 : decode cX12_putBack 10 = .ok (.aload_n 0, 1) := by decide +kernel
theorem dX12_putBack_11 : decode cX12_putBack 11 = .ok (.getfield 7, 3) := by decide +kernel
theorem dX12_putBack_14 : decode cX12_putBack 14 = .ok (.iload_n 1, 1) := by decide +kernel
theorem dX12_putBack_15 : decode cX12_putBack 15 = .ok (.aload_n 0, 1) := by decide +kernel
theorem dX12_putBack_16 : decode cX12_putBack 16 = .ok (.getfield 47, 3) := by decide +kernel
theorem dX12_putBack_19 : decode cX12_putBack 19 = .ok (.iload_n 1, 1) := by decide +kernel
theorem dX12_putBack_20 : decode cX12_putBack 20 = .ok (.iaload, 1) := by decide +kernel
theorem dX12_putBack_21 : decode cX12_putBack 21 = .ok (.iastore, 1) := by decide +kernel
theorem dX12_putBack_22 : decode cX12_putBack 22 = .ok (.iinc 1 1, 3) := by decide +kernel
theorem dX12_putBack_25 : decode cX12_putBack 25 = .ok (.goto (-22), 3) := by decide +kernel
theorem dX12_putBack_28 : decode cX12_putBack 28 = .ok (.aload_n 0, 1) := by decide +kernel
theorem dX12_putBack_29 : decode cX12_putBack 29 = .ok (.iconst 1, 1) := by decide +kernel
theorem dX12_putBack_30 : decode cX12_putBack 30 = .ok (.putfield 43, 3) := by decide +kernel
theorem dX12_putBack_33 : decode cX12_putBack 33 = .ok (.return_, 1) := by decide +kernel
theorem dX12_foretold_0 : decode cX12_foretold 0 = .ok (.iload_n 1, 1) := by decide +kernel
theorem dX12_foretold_1 : decode cX12_foretold 1 = .ok (.iconst 1, 1) := by decide +kernel
theorem dX12_foretold_2 : decode cX12_foretold 2 = .ok (.bipush 60, 2) := by decide +kernel
theorem dX12_foretold_4 : decode cX12_foretold 4 = .ok (.invokestatic 60, 3) := by decide +kernel
theorem dX12_foretold_7 : decode cX12_foretold 7 = .ok (.ifCond .eq 25, 3) := by decide +kernel
theorem dX12_foretold_10 : decode cX12_foretold 10 = .ok (.iload_n 2, 1) := by decide +kernel
theorem dX12_foretold_11 : decode cX12_foretold 11 = .ok (.iconst 0, 1) := by decide +kernel
theorem dX12_foretold_12 : decode cX12_foretold 12 = .ok (.iconst 2, 1) := by decide +kernel
theorem dX12_foretold_13 : decode cX12_foretold 13 = .ok (.invokestatic 60, 3) := by decide +kernel
theorem dX12_foretold_16 : decode cX12_foretold 16 = .ok (.ifCond .eq 16, 3) := by decide +kernel
theorem dX12_foretold_19 : decode cX12_foretold 19 = .ok (.iload_n 2, 1) := by decide +kernel
theorem dX12_foretold_20 : decode cX12_foretold 20 = .ok (.iconst 1, 1) := by decide +kernel
theorem dX12_foretold_21 : decode cX12_foretold 21 = .ok (.if_icmp .ne 14, 3) := by decide +kernel
theorem dX12_foretold_24 : decode cX12_foretold 24 = .ok (.aload_n 0, 1) := by decide +kernel
theorem dX12_foretold_25 : decode cX12_foretold 25 = .ok (.iload_n 3, 1) := by decide +kernel
theorem dX12_foretold_26 : decode cX12_foretold 26 = .ok (.invokevirtual 64, 3) := by decide +kernel
theorem dX12_foretold_29 : decode cX12_foretold 29 = .ok (.ifCond .ne 6, 3) := by decide +kernel
theorem dX12_foretold_32 : decode cX12_foretold 32 = .ok (.bipush (-2), 2) := by decide +kernel
theorem dX12_foretold_34 : decode cX12_foretold 34 = .ok (.ireturn, 1) := by decide +kernel
theorem dX12_foretold_35 : decode cX12_foretold 35 = .ok (.aload_n 0, 1) := by decide +kernel
theorem dX12_foretold_36 : decode cX12_foretold 36 = .ok (.invokevirtual 415, 3) := by decide +kernel
theorem dX12_foretold_39 : decode cX12_foretold 39 = .ok (.iconst 0, 1) := by decide +kernel
theorem dX12_foretold_40 : decode cX12_foretold 40 = .ok (.istore 4, 2) := by decide +kernel
theorem dX12_foretold_42 : decode cX12_foretold 42 = .ok (.iload 4, 2) := by decide +kernel
theorem dX12_foretold_44 : decode cX12_foretold 44 = .ok (.iload_n 1, 1) := by decide +kernel
theorem dX12_foretold_45 : decode cX12_foretold 45 = .ok (.if_icmp .ge 26, 3) := by decide +kernel
theorem dX12_foretold_48 : decode cX12_foretold 48 = .ok (.aload_n 0, 1) := by decide +kernel
theorem dX12_foretold_49 : decode cX12_foretold 49 = .ok (.getfield 7, 3) := by decide +kernel
theorem dX12_foretold_52 : decode cX12_foretold 52 = .ok (.bipush 7, 2) := by decide +kernel
theorem dX12_foretold_54 : decode cX12_foretold 54 = .ok (.iaload, 1) := by decide +kernel
theorem dX12_foretold_55 : decode cX12_foretold 55 = .ok (.sipush 9999, 3) := by decide +kernel
theorem dX12_foretold_58 : decode cX12_foretold 58 = .ok (.if_icmp .ge 7, 3) := by decide +kernel
theorem dX12_foretold_61 : decode cX12_foretold 61 = .ok (.aload_n 0, 1) := by decide +kernel
theorem dX12_foretold_62 : decode cX12_foretold 62 = .ok (.invokevirtual 373, 3) := by decide +kernel
theorem dX12_foretold_65 : decode cX12_foretold 65 = .ok (.iinc 4 1, 3) := by decide +kernel
theorem dX12_foretold_68 : decode cX12_foretold 68 = .ok (.goto (-26), 3) := by decide +kernel
theorem dX12_foretold_71 : decode cX12_foretold 71 = .ok (.iload_n 2, 1) := by decide +kernel
theorem dX12_foretold_72 : decode cX12_foretold 72 = .ok (.ifCond .ne 13, 3) := by decide +kernel
theorem dX12_foretold_75 : decode cX12_foretold 75 = .ok (.aload_n 0, 1) := by decide +kernel
theorem dX12_foretold_76 : decode cX12_foretold 76 = .ok (.getfield 7, 3) := by decide +kernel
theorem dX12_foretold_79 : decode cX12_foretold 79 = .ok (.bipush 8, 2) := by decide +kernel
theorem dX12_foretold_81 : decode cX12_foretold 81 = .ok (.iaload, 1) := by decide +kernel
theorem dX12_foretold_82 : decode cX12_foretold 82 = .ok (.goto 21, 3) := by decide +kernel
theorem dX12_foretold_85 : decode cX12_foretold 85 = .ok (.iload_n 2, 1) := by decide +kernel
theorem dX12_foretold_86 : decode cX12_foretold 86 = .ok (.iconst 1, 1) := by decide +kernel
theorem dX12_foretold_87 : decode cX12_foretold 87 = .ok (.if_icmp .ne 12, 3) := by decide +kernel
theorem dX12_foretold_90 : decode cX12_foretold 90 = .ok (.aload_n 0, 1) := by decide +kernel
theorem dX12_foretold_91 : decode cX12_foretold 91 = .ok (.iload_n 3, 1) := by decide +kernel
theorem dX12_foretold_92 : decode cX12_foretold 92 = .ok (.iconst 1, 1) := by decide +kernel
theorem dX12_foretold_93 : decode cX12_foretold 93 = .ok (.invokevirtual 68, 3) := by decide +kernel
theorem dX12_foretold_96 : decode cX12_foretold 96 = .ok (.goto 7, 3) := by decide +kernel
theorem dX12_foretold_99 : decode cX12_foretold 99 = .ok (.aload_n 0, 1) := by decide +kernel
theorem dX12_foretold_100 : decode cX12_foretold 100 = .ok (.getfield 331, 3) := by decide +kernel
theorem dX12_foretold_103 : decode cX12_foretold 103 = .ok (.istore 4, 2) := by decide +kernel
theorem dX12_foretold_105 : decode cX12_foretold 105 = .ok (.aload_n 0, 1) := by decide +kernel
theorem dX12_foretold_106 : decode cX12_foretold 106 = .ok (.invokevirtual 418, 3) := by decide +kernel
theorem dX12_foretold_109 : decode cX12_foretold 109 = .ok (.iload 4, 2) := by decide +kernel
theorem dX12_foretold_111 : decode cX12_foretold 111 = .ok (.ireturn, 1) := by decide +kernel
theorem dX12_layTurn_0 : decode cX12_layTurn 0 = .ok (.iconst 0, 1) := by decide +kernel
theorem dX12_layTurn_1 : decode cX12_layTurn 1 = .ok (.istore_n 2, 1) := by decide +kernel
theorem dX12_layTurn_2 : decode cX12_layTurn 2 = .ok (.iconst 0, 1) := by decide +kernel
theorem dX12_layTurn_3 : decode cX12_layTurn 3 = .ok (.istore_n 3, 1) := by decide +kernel
theorem dX12_layTurn_4 : decode cX12_layTurn 4 = .ok (.iload_n 3, 1) := by decide +kernel
theorem dX12_layTurn_5 : decode cX12_layTurn 5 = .ok (.aload_n 0, 1) := by decide +kernel
theorem dX12_layTurn_6 : decode cX12_layTurn 6 = .ok (.getfield 7, 3) := by decide +kernel
theorem dX12_layTurn_9 : decode cX12_layTurn 9 = .ok (.iconst 0, 1) := by decide +kernel
theorem dX12_layTurn_10 : decode cX12_layTurn 10 = .ok (.iaload, 1) := by decide +kernel
theorem dX12_layTurn_11 : decode cX12_layTurn 11 = .ok (.if_icmp .ge 30, 3) := by decide +kernel
theorem dX12_layTurn_14 : decode cX12_layTurn 14 = .ok (.iload_n 1, 1) := by decide +kernel
theorem dX12_layTurn_15 : decode cX12_layTurn 15 = .ok (.iload_n 3, 1) := by decide +kernel
theorem dX12_layTurn_16 : decode cX12_layTurn 16 = .ok (.invokestatic 249, 3) := by decide +kernel
theorem dX12_layTurn_19 : decode cX12_layTurn 19 = .ok (.ifCond .ne 6, 3) := by decide +kernel
theorem dX12_layTurn_22 : decode cX12_layTurn 22 = .ok (.goto 13, 3) := by decide +kernel
theorem dX12_layTurn_25 : decode cX12_layTurn 25 = .ok (.aload_n 0, 1) := by decide +kernel
theorem dX12_layTurn_26 : decode cX12_layTurn 26 = .ok (.getfield 50, 3) := by decide +kernel
theorem dX12_layTurn_29 : decode cX12_layTurn 29 = .ok (.iload_n 2, 1) := by decide +kernel
theorem dX12_layTurn_30 : decode cX12_layTurn 30 = .ok (.iload_n 3, 1) := by decide +kernel
theorem dX12_layTurn_31 : decode cX12_layTurn 31 = .ok (.iastore, 1) := by decide +kernel
theorem dX12_layTurn_32 : decode cX12_layTurn 32 = .ok (.iinc 2 1, 3) := by decide +kernel
theorem dX12_layTurn_35 : decode cX12_layTurn 35 = .ok (.iinc 3 1, 3) := by decide +kernel
theorem dX12_layTurn_38 : decode cX12_layTurn 38 = .ok (.goto (-34), 3) := by decide +kernel
theorem dX12_layTurn_41 : decode cX12_layTurn 41 = .ok (.iload_n 2, 1) := by decide +kernel
theorem dX12_layTurn_42 : decode cX12_layTurn 42 = .ok (.ireturn, 1) := by decide +kernel
theorem dX12_pricesOfTurn_0 : decode cX12_pricesOfTurn 0 = .ok (.iconst 0, 1) := by decide +kernel
theorem dX12_pricesOfTurn_1 : decode cX12_pricesOfTurn 1 = .ok (.istore_n 2, 1) := by decide +kernel
theorem dX12_pricesOfTurn_2 : decode cX12_pricesOfTurn 2 = .ok (.aload_n 0, 1) := by decide +kernel
theorem dX12_pricesOfTurn_3 : decode cX12_pricesOfTurn 3 = .ok (.invokevirtual 415, 3) := by decide +kernel
theorem dX12_pricesOfTurn_6 : decode cX12_pricesOfTurn 6 = .ok (.iconst 0, 1) := by decide +kernel
theorem dX12_pricesOfTurn_7 : decode cX12_pricesOfTurn 7 = .ok (.istore_n 3, 1) := by decide +kernel
theorem dX12_pricesOfTurn_8 : decode cX12_pricesOfTurn 8 = .ok (.iload_n 3, 1) := by decide +kernel
theorem dX12_pricesOfTurn_9 : decode cX12_pricesOfTurn 9 = .ok (.iload_n 1, 1) := by decide +kernel
theorem dX12_pricesOfTurn_10 : decode cX12_pricesOfTurn 10 = .ok (.if_icmp .ge 36, 3) := by decide +kernel
theorem dX12_pricesOfTurn_13 : decode cX12_pricesOfTurn 13 = .ok (.aload_n 0, 1) := by decide +kernel
theorem dX12_pricesOfTurn_14 : decode cX12_pricesOfTurn 14 = .ok (.aload_n 0, 1) := by decide +kernel
theorem dX12_pricesOfTurn_15 : decode cX12_pricesOfTurn 15 = .ok (.getfield 50, 3) := by decide +kernel
theorem dX12_pricesOfTurn_18 : decode cX12_pricesOfTurn 18 = .ok (.iload_n 3, 1) := by decide +kernel
theorem dX12_pricesOfTurn_19 : decode cX12_pricesOfTurn 19 = .ok (.iaload, 1) := by decide +kernel
theorem dX12_pricesOfTurn_20 : decode cX12_pricesOfTurn 20 = .ok (.invokevirtual 346, 3) := by decide +kernel
theorem dX12_pricesOfTurn_23 : decode cX12_pricesOfTurn 23 = .ok (.istore 4, 2) := by decide +kernel
theorem dX12_pricesOfTurn_25 : decode cX12_pricesOfTurn 25 = .ok (.iload_n 2, 1) := by decide +kernel
theorem dX12_pricesOfTurn_26 : decode cX12_pricesOfTurn 26 = .ok (.iload 4, 2) := by decide +kernel
theorem dX12_pricesOfTurn_28 : decode cX12_pricesOfTurn 28 = .ok (.iconst (-1), 1) := by decide +kernel
theorem dX12_pricesOfTurn_29 : decode cX12_pricesOfTurn 29 = .ok (.if_icmp .ne 7, 3) := by decide +kernel
theorem dX12_pricesOfTurn_32 : decode cX12_pricesOfTurn 32 = .ok (.iconst 0, 1) := by decide +kernel
theorem dX12_pricesOfTurn_33 : decode cX12_pricesOfTurn 33 = .ok (.goto 5, 3) := by decide +kernel
theorem dX12_pricesOfTurn_36 : decode cX12_pricesOfTurn 36 = .ok (.iload 4, 2) := by decide +kernel
theorem dX12_pricesOfTurn_38 : decode cX12_pricesOfTurn 38 = .ok (.iadd, 1) := by decide +kernel
theorem dX12_pricesOfTurn_39 : decode cX12_pricesOfTurn 39 = .ok (.istore_n 2, 1) := by decide +kernel
theorem dX12_pricesOfTurn_40 : decode cX12_pricesOfTurn 40 = .ok (.iinc 3 1, 3) := by decide +kernel
theorem dX12_pricesOfTurn_43 : decode cX12_pricesOfTurn 43 = .ok (.goto (-35), 3) := by decide +kernel
theorem dX12_pricesOfTurn_46 : decode cX12_pricesOfTurn 46 = .ok (.aload_n 0, 1) := by decide +kernel
theorem dX12_pricesOfTurn_47 : decode cX12_pricesOfTurn 47 = .ok (.invokevirtual 418, 3) := by decide +kernel
theorem dX12_pricesOfTurn_50 : decode cX12_pricesOfTurn 50 = .ok (.iload_n 2, 1) := by decide +kernel
theorem dX12_pricesOfTurn_51 : decode cX12_pricesOfTurn 51 = .ok (.ireturn, 1) := by decide +kernel
theorem dX12_isNextTurn_0 : decode cX12_isNextTurn 0 = .ok (.iload_n 1, 1) := by decide +kernel
theorem dX12_isNextTurn_1 : decode cX12_isNextTurn 1 = .ok (.iconst 2, 1) := by decide +kernel
theorem dX12_isNextTurn_2 : decode cX12_isNextTurn 2 = .ok (.isub, 1) := by decide +kernel
theorem dX12_isNextTurn_3 : decode cX12_isNextTurn 3 = .ok (.istore_n 2, 1) := by decide +kernel
theorem dX12_isNextTurn_4 : decode cX12_isNextTurn 4 = .ok (.iload_n 2, 1) := by decide +kernel
theorem dX12_isNextTurn_5 : decode cX12_isNextTurn 5 = .ok (.ifCond .lt 26, 3) := by decide +kernel
theorem dX12_isNextTurn_8 : decode cX12_isNextTurn 8 = .ok (.aload_n 0, 1) := by decide +kernel
theorem dX12_isNextTurn_9 : decode cX12_isNextTurn 9 = .ok (.getfield 50, 3) := by decide +kernel
theorem dX12_isNextTurn_12 : decode cX12_isNextTurn 12 = .ok (.iload_n 2, 1) := by decide +kernel
theorem dX12_isNextTurn_13 : decode cX12_isNextTurn 13 = .ok (.iaload, 1) := by decide +kernel
theorem dX12_isNextTurn_14 : decode cX12_isNextTurn 14 = .ok (.aload_n 0, 1) := by decide +kernel
theorem dX12_isNextTurn_15 : decode cX12_isNextTurn 15 = .ok (.getfield 50, 3) := by decide +kernel
theorem dX12_isNextTurn_18 : decode cX12_isNextTurn 18 = .ok (.iload_n 2, 1) := by decide +kernel
theorem dX12_isNextTurn_19 : decode cX12_isNextTurn 19 = .ok (.iconst 1, 1) := by decide +kernel
theorem dX12_isNextTurn_20 : decode cX12_isNextTurn 20 = .ok (.iadd, 1) := by decide +kernel
theorem dX12_isNextTurn_21 : decode cX12_isNextTurn 21 = .ok (.iaload, 1) := by decide +kernel
theorem dX12_isNextTurn_22 : decode cX12_isNextTurn 22 = .ok (.if_icmp .le 9, 3) := by decide +kernel
theorem dX12_isNextTurn_25 : decode cX12_isNextTurn 25 = .ok (.iinc 2 (-1), 3) := by decide +kernel
theorem dX12_isNextTurn_28 : decode cX12_isNextTurn 28 = .ok (.goto (-24), 3) := by decide +kernel
theorem dX12_isNextTurn_31 : decode cX12_isNextTurn 31 = .ok (.iload_n 2, 1) := by decide +kernel
theorem dX12_isNextTurn_32 : decode cX12_isNextTurn 32 = .ok (.ifCond .ge 5, 3) := by decide +kernel
theorem dX12_isNextTurn_35 : decode cX12_isNextTurn 35 = .ok (.iconst 0, 1) := by decide +kernel
theorem dX12_isNextTurn_36 : decode cX12_isNextTurn 36 = .ok (.ireturn, 1) := by decide +kernel
theorem dX12_isNextTurn_37 : decode cX12_isNextTurn 37 = .ok (.iload_n 1, 1) := by decide +kernel
theorem dX12_isNextTurn_38 : decode cX12_isNextTurn 38 = .ok (.iconst 1, 1) := by decide +kernel
theorem dX12_isNextTurn_39 : decode cX12_isNextTurn 39 = .ok (.isub, 1) := by decide +kernel
theorem dX12_isNextTurn_40 : decode cX12_isNextTurn 40 = .ok (.istore_n 3, 1) := by decide +kernel
theorem dX12_isNextTurn_41 : decode cX12_isNextTurn 41 = .ok (.aload_n 0, 1) := by decide +kernel
theorem dX12_isNextTurn_42 : decode cX12_isNextTurn 42 = .ok (.getfield 50, 3) := by decide +kernel
theorem dX12_isNextTurn_45 : decode cX12_isNextTurn 45 = .ok (.iload_n 3, 1) := by decide +kernel
theorem dX12_isNextTurn_46 : decode cX12_isNextTurn 46 = .ok (.iaload, 1) := by decide +kernel
theorem dX12_isNextTurn_47 : decode cX12_isNextTurn 47 = .ok (.aload_n 0, 1) := by decide +kernel
theorem dX12_isNextTurn_48 : decode cX12_isNextTurn 48 = .ok (.getfield 50, 3) := by decide +kernel
theorem dX12_isNextTurn_51 : decode cX12_isNextTurn 51 = .ok (.iload_n 2, 1) := by decide +kernel
theorem dX12_isNextTurn_52 : decode cX12_isNextTurn 52 = .ok (.iaload, 1) := by decide +kernel
theorem dX12_isNextTurn_53 : decode cX12_isNextTurn 53 = .ok (.if_icmp .ge 9, 3) := by decide +kernel
theorem dX12_isNextTurn_56 : decode cX12_isNextTurn 56 = .ok (.iinc 3 (-1), 3) := by decide +kernel
theorem dX12_isNextTurn_59 : decode cX12_isNextTurn 59 = .ok (.goto (-18), 3) := by decide +kernel
theorem dX12_isNextTurn_62 : decode cX12_isNextTurn 62 = .ok (.aload_n 0, 1) := by decide +kernel
theorem dX12_isNextTurn_63 : decode cX12_isNextTurn 63 = .ok (.iload_n 2, 1) := by decide +kernel
theorem dX12_isNextTurn_64 : decode cX12_isNextTurn 64 = .ok (.iload_n 3, 1) := by decide +kernel
theorem dX12_isNextTurn_65 : decode cX12_isNextTurn 65 = .ok (.invokevirtual 421, 3) := by decide +kernel
theorem dX12_isNextTurn_68 : decode cX12_isNextTurn 68 = .ok (.iload_n 2, 1) := by decide +kernel
theorem dX12_isNextTurn_69 : decode cX12_isNextTurn 69 = .ok (.iconst 1, 1) := by decide +kernel
theorem dX12_isNextTurn_70 : decode cX12_isNextTurn 70 = .ok (.iadd, 1) := by decide +kernel
theorem dX12_isNextTurn_71 : decode cX12_isNextTurn 71 = .ok (.istore 4, 2) := by decide +kernel
theorem dX12_isNextTurn_73 : decode cX12_isNextTurn 73 = .ok (.iload_n 1, 1) := by decide +kernel
theorem dX12_isNextTurn_74 : decode cX12_isNextTurn 74 = .ok (.iconst 1, 1) := by decide +kernel
theorem dX12_isNextTurn_75 : decode cX12_isNextTurn 75 = .ok (.isub, 1) := by decide +kernel
theorem dX12_isNextTurn_76 : decode cX12_isNextTurn 76 = .ok (.istore 5, 2) := by decide +kernel
theorem dX12_isNextTurn_78 : decode cX12_isNextTurn 78 = .ok (.iload 4, 2) := by decide +kernel
theorem dX12_isNextTurn_80 : decode cX12_isNextTurn 80 = .ok (.iload 5, 2) := by decide +kernel
theorem dX12_isNextTurn_82 : decode cX12_isNextTurn 82 = .ok (.if_icmp .ge 20, 3) := by decide +kernel
theorem dX12_isNextTurn_85 : decode cX12_isNextTurn 85 = .ok (.aload_n 0, 1) := by decide +kernel
theorem dX12_isNextTurn_86 : decode cX12_isNextTurn 86 = .ok (.iload 4, 2) := by decide +kernel
theorem dX12_isNextTurn_88 : decode cX12_isNextTurn 88 = .ok (.iload 5, 2) := by decide +kernel
theorem dX12_isNextTurn_90 : decode cX12_isNextTurn 90 = .ok (.invokevirtual 421, 3) := by decide +kernel
theorem dX12_isNextTurn_93 : decode cX12_isNextTurn 93 = .ok (.iinc 5 (-1), 3) := by decide +kernel
theorem dX12_isNextTurn_96 : decode cX12_isNextTurn 96 = .ok (.iinc 4 1, 3) := by decide +kernel
theorem dX12_isNextTurn_99 : decode cX12_isNextTurn 99 = .ok (.goto (-21), 3) := by decide +kernel
theorem dX12_isNextTurn_102 : decode cX12_isNextTurn 102 = .ok (.iconst 1, 1) := by decide +kernel
theorem dX12_isNextTurn_103 : decode cX12_isNextTurn 103 = .ok (.ireturn, 1) := by decide +kernel
theorem dX12_swap_0 : decode cX12_swap 0 = .ok (.aload_n 0, 1) := by decide +kernel
theorem dX12_swap_1 : decode cX12_swap 1 = .ok (.getfield 50, 3) := by decide +kernel
theorem dX12_swap_4 : decode cX12_swap 4 = .ok (.iload_n 1, 1) := by decide +kernel
theorem dX12_swap_5 : decode cX12_swap 5 = .ok (.iaload, 1) := by decide +kernel
theorem dX12_swap_6 : decode cX12_swap 6 = .ok (.istore_n 3, 1) := by decide +kernel
theorem dX12_swap_7 : decode cX12_swap 7 = .ok (.aload_n 0, 1) := by decide +kernel
theorem dX12_swap_8 : decode cX12_swap 8 = .ok (.getfield 50, 3) := by decide +kernel
theorem dX12_swap_11 : decode cX12_swap 11 = .ok (.iload_n 1, 1) := by decide +kernel
theorem dX12_swap_12 : decode cX12_swap 12 = .ok (.aload_n 0, 1) := by decide +kernel
theorem dX12_swap_13 : decode cX12_swap 13 = .ok (.getfield 50, 3) := by decide +kernel
theorem dX12_swap_16 : decode cX12_swap 16 = .ok (.iload_n 2, 1) := by decide +kernel
theorem dX12_swap_17 : decode cX12_swap 17 = .ok (.iaload, 1) := by decide +kernel
theorem dX12_swap_18 : decode cX12_swap 18 = .ok (.iastore, 1) := by decide +kernel
theorem dX12_swap_19 : decode cX12_swap 19 = .ok (.aload_n 0, 1) := by decide +kernel
theorem dX12_swap_20 : decode cX12_swap 20 = .ok (.getfield 50, 3) := by decide +kernel
theorem dX12_swap_23 : decode cX12_swap 23 = .ok (.iload_n 2, 1) := by decide +kernel
theorem dX12_swap_24 : decode cX12_swap 24 = .ok (.iload_n 3, 1) := by decide +kernel
theorem dX12_swap_25 : decode cX12_swap 25 = .ok (.iastore, 1) := by decide +kernel
theorem dX12_swap_26 : decode cX12_swap 26 = .ok (.return_, 1) := by decide +kernel
theorem dX12_order_0 : decode cX12_order 0 = .ok (.iload_n 1, 1) := by decide +kernel
theorem dX12_order_1 : decode cX12_order 1 = .ok (.iconst 1, 1) := by decide +kernel
theorem dX12_order_2 : decode cX12_order 2 = .ok (.iconst 1, 1) := by decide +kernel
theorem dX12_order_3 : decode cX12_order 3 = .ok (.aload_n 0, 1) := by decide +kernel
theorem dX12_order_4 : decode cX12_order 4 = .ok (.getfield 7, 3) := by decide +kernel
theorem dX12_order_7 : decode cX12_order 7 = .ok (.iconst 0, 1) := by decide +kernel
theorem dX12_order_8 : decode cX12_order 8 = .ok (.iaload, 1) := by decide +kernel
theorem dX12_order_9 : decode cX12_order 9 = .ok (.ishl, 1) := by decide +kernel
theorem dX12_order_10 : decode cX12_order 10 = .ok (.iconst 1, 1) := by decide +kernel
theorem dX12_order_11 : decode cX12_order 11 = .ok (.isub, 1) := by decide +kernel
theorem dX12_order_12 : decode cX12_order 12 = .ok (.invokestatic 60, 3) := by decide +kernel
theorem dX12_order_15 : decode cX12_order 15 = .ok (.ifCond .eq 25, 3) := by decide +kernel
theorem dX12_order_18 : decode cX12_order 18 = .ok (.iload_n 1, 1) := by decide +kernel
theorem dX12_order_19 : decode cX12_order 19 = .ok (.invokestatic 305, 3) := by decide +kernel
theorem dX12_order_22 : decode cX12_order 22 = .ok (.iconst 5, 1) := by decide +kernel
theorem dX12_order_23 : decode cX12_order 23 = .ok (.if_icmp .gt 17, 3) := by decide +kernel
theorem dX12_order_26 : decode cX12_order 26 = .ok (.iload_n 2, 1) := by decide +kernel
theorem dX12_order_27 : decode cX12_order 27 = .ok (.iconst (-1), 1) := by decide +kernel
theorem dX12_order_28 : decode cX12_order 28 = .ok (.iload_n 1, 1) := by decide +kernel
theorem dX12_order_29 : decode cX12_order 29 = .ok (.invokestatic 305, 3) := by decide +kernel
theorem dX12_order_32 : decode cX12_order 32 = .ok (.iconst 1, 1) := by decide +kernel
theorem dX12_order_33 : decode cX12_order 33 = .ok (.isub, 1) := by decide +kernel
theorem dX12_order_34 : decode cX12_order 34 = .ok (.invokestatic 60, 3) := by decide +kernel
theorem dX12_order_37 : decode cX12_order 37 = .ok (.ifCond .ne 6, 3) := by decide +kernel
theorem dX12_order_40 : decode cX12_order 40 = .ok (.bipush (-2), 2) := by decide +kernel
theorem dX12_order_42 : decode cX12_order 42 = .ok (.ireturn, 1) := by decide +kernel
theorem dX12_order_43 : decode cX12_order 43 = .ok (.iconst 0, 1) := by decide +kernel
theorem dX12_order_44 : decode cX12_order 44 = .ok (.istore_n 3, 1) := by decide +kernel
theorem dX12_order_45 : decode cX12_order 45 = .ok (.iload_n 3, 1) := by decide +kernel
theorem dX12_order_46 : decode cX12_order 46 = .ok (.aload_n 0, 1) := by decide +kernel
theorem dX12_order_47 : decode cX12_order 47 = .ok (.getfield 7, 3) := by decide +kernel
theorem dX12_order_50 : decode cX12_order 50 = .ok (.iconst 0, 1) := by decide +kernel
theorem dX12_order_51 : decode cX12_order 51 = .ok (.iaload, 1) := by decide +kernel
theorem dX12_order_52 : decode cX12_order 52 = .ok (.if_icmp .ge 28, 3) := by decide +kernel
theorem dX12_order_55 : decode cX12_order 55 = .ok (.iload_n 1, 1) := by decide +kernel
theorem dX12_order_56 : decode cX12_order 56 = .ok (.iload_n 3, 1) := by decide +kernel
theorem dX12_order_57 : decode cX12_order 57 = .ok (.invokestatic 249, 3) := by decide +kernel
theorem dX12_order_60 : decode cX12_order 60 = .ok (.ifCond .eq 14, 3) := by decide +kernel
theorem dX12_order_63 : decode cX12_order 63 = .ok (.aload_n 0, 1) := by decide +kernel
theorem dX12_order_64 : decode cX12_order 64 = .ok (.iload_n 3, 1) := by decide +kernel
theorem dX12_order_65 : decode cX12_order 65 = .ok (.invokevirtual 337, 3) := by decide +kernel
theorem dX12_order_68 : decode cX12_order 68 = .ok (.ifCond .ne 6, 3) := by decide +kernel
theorem dX12_order_71 : decode cX12_order 71 = .ok (.bipush (-2), 2) := by decide +kernel
theorem dX12_order_73 : decode cX12_order 73 = .ok (.ireturn, 1) := by decide +kernel
theorem dX12_order_74 : decode cX12_order 74 = .ok (.iinc 3 1, 3) := by decide +kernel
theorem dX12_order_77 : decode cX12_order 77 = .ok (.goto (-32), 3) := by decide +kernel
theorem dX12_order_80 : decode cX12_order 80 = .ok (.aload_n 0, 1) := by decide +kernel
theorem dX12_order_81 : decode cX12_order 81 = .ok (.iload_n 1, 1) := by decide +kernel
theorem dX12_order_82 : decode cX12_order 82 = .ok (.invokevirtual 424, 3) := by decide +kernel
theorem dX12_order_85 : decode cX12_order 85 = .ok (.istore_n 3, 1) := by decide +kernel
theorem dX12_order_86 : decode cX12_order 86 = .ok (.iconst (-1), 1) := by decide +kernel
theorem dX12_order_87 : decode cX12_order 87 = .ok (.istore 4, 2) := by decide +kernel
theorem dX12_order_89 : decode cX12_order 89 = .ok (.iconst 1, 1) := by decide +kernel
theorem dX12_order_90 : decode cX12_order 90 = .ok (.istore 5, 2) := by decide +kernel
theorem dX12_order_92 : decode cX12_order 92 = .ok (.iload 5, 2) := by decide +kernel
theorem dX12_order_94 : decode cX12_order 94 = .ok (.ifCond .eq 60, 3) := by decide +kernel
theorem dX12_order_97 : decode cX12_order 97 = .ok (.aload_n 0, 1) := by decide +kernel
theorem dX12_order_98 : decode cX12_order 98 = .ok (.iload_n 3, 1) := by decide +kernel
theorem dX12_order_99 : decode cX12_order 99 = .ok (.invokevirtual 427, 3) := by decide +kernel
theorem dX12_order_102 : decode cX12_order 102 = .ok (.istore 6, 2) := by decide +kernel
theorem dX12_order_104 : decode cX12_order 104 = .ok (.iload 6, 2) := by decide +kernel
theorem dX12_order_106 : decode cX12_order 106 = .ok (.iload 4, 2) := by decide +kernel
theorem dX12_order_108 : decode cX12_order 108 = .ok (.if_icmp .le 36, 3) := by decide +kernel
theorem dX12_order_111 : decode cX12_order 111 = .ok (.iload 6, 2) := by decide +kernel
theorem dX12_order_113 : decode cX12_order 113 = .ok (.istore 4, 2) := by decide +kernel
theorem dX12_order_115 : decode cX12_order 115 = .ok (.iconst 0, 1) := by decide +kernel
theorem dX12_order_116 : decode cX12_order 116 = .ok (.istore 7, 2) := by decide +kernel
theorem dX12_order_118 : decode cX12_order 118 = .ok (.iload 7, 2) := by decide +kernel
theorem dX12_order_120 : decode cX12_order 120 = .ok (.iload_n 3, 1) := by decide +kernel
theorem dX12_order_121 : decode cX12_order 121 = .ok (.if_icmp .ge 23, 3) := by decide +kernel
theorem dX12_order_124 : decode cX12_order 124 = .ok (.aload_n 0, 1) := by decide +kernel
theorem dX12_order_125 : decode cX12_order 125 = .ok (.getfield 53, 3) := by decide +kernel
theorem dX12_order_128 : decode cX12_order 128 = .ok (.iload 7, 2) := by decide +kernel
theorem dX12_order_130 : decode cX12_order 130 = .ok (.aload_n 0, 1) := by decide +kernel
theorem dX12_order_131 : decode cX12_order 131 = .ok (.getfield 50, 3) := by decide +kernel
theorem dX12_order_134 : decode cX12_order 134 = .ok (.iload 7, 2) := by decide +kernel
theorem dX12_order_136 : decode cX12_order 136 = .ok (.iaload, 1) := by decide +kernel
theorem dX12_order_137 : decode cX12_order 137 = .ok (.iastore, 1) := by decide +kernel
theorem dX12_order_138 : decode cX12_order 138 = .ok (.iinc 7 1, 3) := by decide +kernel
theorem dX12_order_141 : decode cX12_order 141 = .ok (.goto (-23), 3) := by decide +kernel
theorem dX12_order_144 : decode cX12_order 144 = .ok (.aload_n 0, 1) := by decide +kernel
theorem dX12_order_145 : decode cX12_order 145 = .ok (.iload_n 3, 1) := by decide +kernel
theorem dX12_order_146 : decode cX12_order 146 = .ok (.invokevirtual 430, 3) := by decide +kernel
theorem dX12_order_149 : decode cX12_order 149 = .ok (.istore 5, 2) := by decide +kernel
theorem dX12_order_151 : decode cX12_order 151 = .ok (.goto (-59), 3) := by decide +kernel
theorem dX12_order_154 : decode cX12_order 154 = .ok (.iload_n 2, 1) := by decide +kernel
theorem dX12_order_155 : decode cX12_order 155 = .ok (.iconst (-1), 1) := by decide +kernel
theorem dX12_order_156 : decode cX12_order 156 = .ok (.if_icmp .ne 8, 3) := by decide +kernel
theorem dX12_order_159 : decode cX12_order 159 = .ok (.iload 4, 2) := by decide +kernel
theorem dX12_order_161 : decode cX12_order 161 = .ok (.goto 9, 3) := by decide +kernel
theorem dX12_order_164 : decode cX12_order 164 = .ok (.aload_n 0, 1) := by decide +kernel
theorem dX12_order_165 : decode cX12_order 165 = .ok (.getfield 53, 3) := by decide +kernel
theorem dX12_order_168 : decode cX12_order 168 = .ok (.iload_n 2, 1) := by decide +kernel
theorem dX12_order_169 : decode cX12_order 169 = .ok (.iaload, 1) := by decide +kernel
theorem dX12_order_170 : decode cX12_order 170 = .ok (.ireturn, 1) := by decide +kernel
theorem dX12_bundle_0 : decode cX12_bundle 0 = .ok (.iload_n 1, 1) := by decide +kernel
theorem dX12_bundle_1 : decode cX12_bundle 1 = .ok (.iconst (-1), 1) := by decide +kernel
theorem dX12_bundle_2 : decode cX12_bundle 2 = .ok (.if_icmp .ne 12, 3) := by decide +kernel
theorem dX12_bundle_5 : decode cX12_bundle 5 = .ok (.aload_n 0, 1) := by decide +kernel
theorem dX12_bundle_6 : decode cX12_bundle 6 = .ok (.getfield 7, 3) := by decide +kernel
theorem dX12_bundle_9 : decode cX12_bundle 9 = .ok (.iconst 5, 1) := by decide +kernel
theorem dX12_bundle_10 : decode cX12_bundle 10 = .ok (.iconst 0, 1) := by decide +kernel
theorem dX12_bundle_11 : decode cX12_bundle 11 = .ok (.iastore, 1) := by decide +kernel
theorem dX12_bundle_12 : decode cX12_bundle 12 = .ok (.iconst 0, 1) := by decide +kernel
theorem dX12_bundle_13 : decode cX12_bundle 13 = .ok (.ireturn, 1) := by decide +kernel
theorem dX12_bundle_14 : decode cX12_bundle 14 = .ok (.aload_n 0, 1) := by decide +kernel
theorem dX12_bundle_15 : decode cX12_bundle 15 = .ok (.iload_n 1, 1) := by decide +kernel
theorem dX12_bundle_16 : decode cX12_bundle 16 = .ok (.invokevirtual 82, 3) := by decide +kernel
theorem dX12_bundle_19 : decode cX12_bundle 19 = .ok (.ifCond .eq 43, 3) := by decide +kernel
theorem dX12_bundle_22 : decode cX12_bundle 22 = .ok (.iload_n 2, 1) := by decide +kernel
theorem dX12_bundle_23 : decode cX12_bundle 23 = .ok (.iconst 1, 1) := by decide +kernel
theorem dX12_bundle_24 : decode cX12_bundle 24 = .ok (.iconst 1, 1) := by decide +kernel
theorem dX12_bundle_25 : decode cX12_bundle 25 = .ok (.aload_n 0, 1) := by decide +kernel
theorem dX12_bundle_26 : decode cX12_bundle 26 = .ok (.getfield 7, 3) := by decide +kernel
theorem dX12_bundle_29 : decode cX12_bundle 29 = .ok (.iconst 0, 1) := by decide +kernel
theorem dX12_bundle_30 : decode cX12_bundle 30 = .ok (.iaload, 1) := by decide +kernel
theorem dX12_bundle_31 : decode cX12_bundle 31 = .ok (.ishl, 1) := by decide +kernel
theorem dX12_bundle_32 : decode cX12_bundle 32 = .ok (.iconst 1, 1) := by decide +kernel
theorem dX12_bundle_33 : decode cX12_bundle 33 = .ok (.isub, 1) := by decide +kernel
theorem dX12_bundle_34 : decode cX12_bundle 34 = .ok (.invokestatic 60, 3) := by decide +kernel
theorem dX12_bundle_37 : decode cX12_bundle 37 = .ok (.ifCond .eq 25, 3) := by decide +kernel
theorem dX12_bundle_40 : decode cX12_bundle 40 = .ok (.iload_n 3, 1) := by decide +kernel
theorem dX12_bundle_41 : decode cX12_bundle 41 = .ok (.iconst 0, 1) := by decide +kernel
theorem dX12_bundle_42 : decode cX12_bundle 42 = .ok (.sipush 9999, 3) := by decide +kernel
theorem dX12_bundle_45 : decode cX12_bundle 45 = .ok (.invokestatic 60, 3) := by decide +kernel
theorem dX12_bundle_48 : decode cX12_bundle 48 = .ok (.ifCond .eq 14, 3) := by decide +kernel
theorem dX12_bundle_51 : decode cX12_bundle 51 = .ok (.aload_n 0, 1) := by decide +kernel
theorem dX12_bundle_52 : decode cX12_bundle 52 = .ok (.getfield 7, 3) := by decide +kernel
theorem dX12_bundle_55 : decode cX12_bundle 55 = .ok (.iconst 5, 1) := by decide +kernel
theorem dX12_bundle_56 : decode cX12_bundle 56 = .ok (.iaload, 1) := by decide +kernel
theorem dX12_bundle_57 : decode cX12_bundle 57 = .ok (.bipush 8, 2) := by decide +kernel
theorem dX12_bundle_59 : decode cX12_bundle 59 = .ok (.if_icmp .ne 6, 3) := by decide +kernel
theorem dX12_bundle_62 : decode cX12_bundle 62 = .ok (.bipush (-2), 2) := by decide +kernel
theorem dX12_bundle_64 : decode cX12_bundle 64 = .ok (.ireturn, 1) := by decide +kernel
theorem dX12_bundle_65 : decode cX12_bundle 65 = .ok (.sipush 153, 3) := by decide +kernel
theorem dX12_bundle_68 : decode cX12_bundle 68 = .ok (.iconst 3, 1) := by decide +kernel
theorem dX12_bundle_69 : decode cX12_bundle 69 = .ok (.aload_n 0, 1) := by decide +kernel
theorem dX12_bundle_70 : decode cX12_bundle 70 = .ok (.getfield 7, 3) := by decide +kernel
theorem dX12_bundle_73 : decode cX12_bundle 73 = .ok (.iconst 5, 1) := by decide +kernel
theorem dX12_bundle_74 : decode cX12_bundle 74 = .ok (.iaload, 1) := by decide +kernel
theorem dX12_bundle_75 : decode cX12_bundle 75 = .ok (.imul, 1) := by decide +kernel
theorem dX12_bundle_76 : decode cX12_bundle 76 = .ok (.iadd, 1) := by decide +kernel
theorem dX12_bundle_77 : decode cX12_bundle 77 = .ok (.istore 4, 2) := by decide +kernel
theorem dX12_bundle_79 : decode cX12_bundle 79 = .ok (.aload_n 0, 1) := by decide +kernel
theorem dX12_bundle_80 : decode cX12_bundle 80 = .ok (.getfield 7, 3) := by decide +kernel
theorem dX12_bundle_83 : decode cX12_bundle 83 = .ok (.iload 4, 2) := by decide +kernel
theorem dX12_bundle_85 : decode cX12_bundle 85 = .ok (.iload_n 1, 1) := by decide +kernel
theorem dX12_bundle_86 : decode cX12_bundle 86 = .ok (.iastore, 1) := by decide +kernel
theorem dX12_bundle_87 : decode cX12_bundle 87 = .ok (.aload_n 0, 1) := by decide +kernel
theorem dX12_bundle_88 : decode cX12_bundle 88 = .ok (.getfield 7, 3) := by decide +kernel
theorem dX12_bundle_91 : decode cX12_bundle 91 = .ok (.iload 4, 2) := by decide +kernel
theorem dX12_bundle_93 : decode cX12_bundle 93 = .ok (.iconst 1, 1) := by decide +kernel
theorem dX12_bundle_94 : decode cX12_bundle 94 = .ok (.iadd, 1) := by decide +kernel
theorem dX12_bundle_95 : decode cX12_bundle 95 = .ok (.iload_n 2, 1) := by decide +kernel
theorem dX12_bundle_96 : decode cX12_bundle 96 = .ok (.iastore, 1) := by decide +kernel
theorem dX12_bundle_97 : decode cX12_bundle 97 = .ok (.aload_n 0, 1) := by decide +kernel
theorem dX12_bundle_98 : decode cX12_bundle 98 = .ok (.getfield 7, 3) := by decide +kernel
theorem dX12_bundle_101 : decode cX12_bundle 101 = .ok (.iload 4, 2) := by decide +kernel
theorem dX12_bundle_103 : decode cX12_bundle 103 = .ok (.iconst 2, 1) := by decide +kernel
theorem dX12_bundle_104 : decode cX12_bundle 104 = .ok (.iadd, 1) := by decide +kernel
theorem dX12_bundle_105 : decode cX12_bundle 105 = .ok (.iload_n 3, 1) := by decide +kernel
theorem dX12_bundle_106 : decode cX12_bundle 106 = .ok (.iastore, 1) := by decide +kernel
theorem dX12_bundle_107 : decode cX12_bundle 107 = .ok (.aload_n 0, 1) := by decide +kernel
theorem dX12_bundle_108 : decode cX12_bundle 108 = .ok (.getfield 7, 3) := by decide +kernel
theorem dX12_bundle_111 : decode cX12_bundle 111 = .ok (.iconst 5, 1) := by decide +kernel
theorem dX12_bundle_112 : decode cX12_bundle 112 = .ok (.dup2, 1) := by decide +kernel
theorem dX12_bundle_113 : decode cX12_bundle 113 = .ok (.iaload, 1) := by decide +kernel
theorem dX12_bundle_114 : decode cX12_bundle 114 = .ok (.iconst 1, 1) := by decide +kernel
theorem dX12_bundle_115 : decode cX12_bundle 115 = .ok (.iadd, 1) := by decide +kernel
theorem dX12_bundle_116 : decode cX12_bundle 116 = .ok (.iastore, 1) := by decide +kernel
theorem dX12_bundle_117 : decode cX12_bundle 117 = .ok (.aload_n 0, 1) := by decide +kernel
theorem dX12_bundle_118 : decode cX12_bundle 118 = .ok (.getfield 7, 3) := by decide +kernel
theorem dX12_bundle_121 : decode cX12_bundle 121 = .ok (.iconst 5, 1) := by decide +kernel
theorem dX12_bundle_122 : decode cX12_bundle 122 = .ok (.iaload, 1) := by decide +kernel
theorem dX12_bundle_123 : decode cX12_bundle 123 = .ok (.ireturn, 1) := by decide +kernel
theorem dX12_pricesOf_0 : decode cX12_pricesOf 0 = .ok (.iconst 0, 1) := by decide +kernel
theorem dX12_pricesOf_1 : decode cX12_pricesOf 1 = .ok (.istore_n 3, 1) := by decide +kernel
theorem dX12_pricesOf_2 : decode cX12_pricesOf 2 = .ok (.iconst 0, 1) := by decide +kernel
theorem dX12_pricesOf_3 : decode cX12_pricesOf 3 = .ok (.istore 4, 2) := by decide +kernel
theorem dX12_pricesOf_5 : decode cX12_pricesOf 5 = .ok (.iconst 0, 1) := by decide +kernel
theorem dX12_pricesOf_6 : decode cX12_pricesOf 6 = .ok (.istore 5, 2) := by decide +kernel
theorem dX12_pricesOf_8 : decode cX12_pricesOf 8 = .ok (.iconst 0, 1) := by decide +kernel
theorem dX12_pricesOf_9 : decode cX12_pricesOf 9 = .ok (.istore 6, 2) := by decide +kernel
theorem dX12_pricesOf_11 : decode cX12_pricesOf 11 = .ok (.iload 6, 2) := by decide +kernel
theorem dX12_pricesOf_13 : decode cX12_pricesOf 13 = .ok (.aload_n 0, 1) := by decide +kernel
theorem dX12_pricesOf_14 : decode cX12_pricesOf 14 = .ok (.getfield 7, 3) := by decide +kernel
theorem dX12_pricesOf_17 : decode cX12_pricesOf 17 = .ok (.iconst 5, 1) := by decide +kernel
theorem dX12_pricesOf_18 : decode cX12_pricesOf 18 = .ok (.iaload, 1) := by decide +kernel
theorem dX12_pricesOf_19 : decode cX12_pricesOf 19 = .ok (.if_icmp .ge 113, 3) := by decide +kernel
theorem dX12_pricesOf_22 : decode cX12_pricesOf 22 = .ok (.iload_n 1, 1) := by decide +kernel
theorem dX12_pricesOf_23 : decode cX12_pricesOf 23 = .ok (.iload 6, 2) := by decide +kernel
theorem dX12_pricesOf_25 : decode cX12_pricesOf 25 = .ok (.invokestatic 249, 3) := by decide +kernel
theorem dX12_pricesOf_28 : decode cX12_pricesOf 28 = .ok (.ifCond .ne 6, 3) := by decide +kernel
theorem dX12_pricesOf_31 : decode cX12_pricesOf 31 = .ok (.goto 95, 3) := by decide +kernel
theorem dX12_pricesOf_34 : decode cX12_pricesOf 34 = .ok (.sipush 153, 3) := by decide +kernel
theorem dX12_pricesOf_37 : decode cX12_pricesOf 37 = .ok (.iconst 3, 1) := by decide +kernel
theorem dX12_pricesOf_38 : decode cX12_pricesOf 38 = .ok (.iload 6, 2) := by decide +kernel
theorem dX12_pricesOf_40 : decode cX12_pricesOf 40 = .ok (.imul, 1) := by decide +kernel
theorem dX12_pricesOf_41 : decode cX12_pricesOf 41 = .ok (.iadd, 1) := by decide +kernel
theorem dX12_pricesOf_42 : decode cX12_pricesOf 42 = .ok (.istore 7, 2) := by decide +kernel
theorem dX12_pricesOf_44 : decode cX12_pricesOf 44 = .ok (.aload_n 0, 1) := by decide +kernel
theorem dX12_pricesOf_45 : decode cX12_pricesOf 45 = .ok (.getfield 7, 3) := by decide +kernel
theorem dX12_pricesOf_48 : decode cX12_pricesOf 48 = .ok (.iload 7, 2) := by decide +kernel
theorem dX12_pricesOf_50 : decode cX12_pricesOf 50 = .ok (.iaload, 1) := by decide +kernel
theorem dX12_pricesOf_51 : decode cX12_pricesOf 51 = .ok (.iload_n 2, 1) := by decide +kernel
theorem dX12_pricesOf_52 : decode cX12_pricesOf 52 = .ok (.if_icmp .eq 32, 3) := by decide +kernel
theorem dX12_pricesOf_55 : decode cX12_pricesOf 55 = .ok (.iload 4, 2) := by decide +kernel
theorem dX12_pricesOf_57 : decode cX12_pricesOf 57 = .ok (.aload_n 0, 1) := by decide +kernel
theorem dX12_pricesOf_58 : decode cX12_pricesOf 58 = .ok (.getfield 7, 3) := by decide +kernel
theorem dX12_pricesOf_61 : decode cX12_pricesOf 61 = .ok (.iload 7, 2) := by decide +kernel
theorem dX12_pricesOf_63 : decode cX12_pricesOf 63 = .ok (.iaload, 1) := by decide +kernel
theorem dX12_pricesOf_64 : decode cX12_pricesOf 64 = .ok (.invokestatic 249, 3) := by decide +kernel
theorem dX12_pricesOf_67 : decode cX12_pricesOf 67 = .ok (.ifCond .ne 17, 3) := by decide +kernel
theorem dX12_pricesOf_70 : decode cX12_pricesOf 70 = .ok (.iload_n 3, 1) := by decide +kernel
theorem dX12_pricesOf_71 : decode cX12_pricesOf 71 = .ok (.aload_n 0, 1) := by decide +kernel
theorem dX12_pricesOf_72 : decode cX12_pricesOf 72 = .ok (.getfield 7, 3) := by decide +kernel
theorem dX12_pricesOf_75 : decode cX12_pricesOf 75 = .ok (.iload 7, 2) := by decide +kernel
theorem dX12_pricesOf_77 : decode cX12_pricesOf 77 = .ok (.iconst 1, 1) := by decide +kernel
theorem dX12_pricesOf_78 : decode cX12_pricesOf 78 = .ok (.iadd, 1) := by decide +kernel
theorem dX12_pricesOf_79 : decode cX12_pricesOf 79 = .ok (.iaload, 1) := by decide +kernel
theorem dX12_pricesOf_80 : decode cX12_pricesOf 80 = .ok (.iand, 1) := by decide +kernel
theorem dX12_pricesOf_81 : decode cX12_pricesOf 81 = .ok (.ifCond .eq 5, 3) := by decide +kernel
theorem dX12_pricesOf_84 : decode cX12_pricesOf 84 = .ok (.iconst (-1), 1) := by decide +kernel
theorem dX12_pricesOf_85 : decode cX12_pricesOf 85 = .ok (.ireturn, 1) := by decide +kernel
theorem dX12_pricesOf_86 : decode cX12_pricesOf 86 = .ok (.iload 4, 2) := by decide +kernel
theorem dX12_pricesOf_88 : decode cX12_pricesOf 88 = .ok (.iconst 1, 1) := by decide +kernel
theorem dX12_pricesOf_89 : decode cX12_pricesOf 89 = .ok (.aload_n 0, 1) := by decide +kernel
theorem dX12_pricesOf_90 : decode cX12_pricesOf 90 = .ok (.getfield 7, 3) := by decide +kernel
theorem dX12_pricesOf_93 : decode cX12_pricesOf 93 = .ok (.iload 7, 2) := by decide +kernel
theorem dX12_pricesOf_95 : decode cX12_pricesOf 95 = .ok (.iaload, 1) := by decide +kernel
theorem dX12_pricesOf_96 : decode cX12_pricesOf 96 = .ok (.ishl, 1) := by decide +kernel
theorem dX12_pricesOf_97 : decode cX12_pricesOf 97 = .ok (.ior, 1) := by decide +kernel
theorem dX12_pricesOf_98 : decode cX12_pricesOf 98 = .ok (.istore 4, 2) := by decide +kernel
theorem dX12_pricesOf_100 : decode cX12_pricesOf 100 = .ok (.iload_n 3, 1) := by decide +kernel
theorem dX12_pricesOf_101 : decode cX12_pricesOf 101 = .ok (.aload_n 0, 1) := by decide +kernel
theorem dX12_pricesOf_102 : decode cX12_pricesOf 102 = .ok (.getfield 7, 3) := by decide +kernel
theorem dX12_pricesOf_105 : decode cX12_pricesOf 105 = .ok (.iload 7, 2) := by decide +kernel
theorem dX12_pricesOf_107 : decode cX12_pricesOf 107 = .ok (.iconst 1, 1) := by decide +kernel
theorem dX12_pricesOf_108 : decode cX12_pricesOf 108 = .ok (.iadd, 1) := by decide +kernel
theorem dX12_pricesOf_109 : decode cX12_pricesOf 109 = .ok (.iaload, 1) := by decide +kernel
theorem dX12_pricesOf_110 : decode cX12_pricesOf 110 = .ok (.ior, 1) := by decide +kernel
theorem dX12_pricesOf_111 : decode cX12_pricesOf 111 = .ok (.istore_n 3, 1) := by decide +kernel
theorem dX12_pricesOf_112 : decode cX12_pricesOf 112 = .ok (.iload 5, 2) := by decide +kernel
theorem dX12_pricesOf_114 : decode cX12_pricesOf 114 = .ok (.aload_n 0, 1) := by decide +kernel
theorem dX12_pricesOf_115 : decode cX12_pricesOf 115 = .ok (.getfield 7, 3) := by decide +kernel
theorem dX12_pricesOf_118 : decode cX12_pricesOf 118 = .ok (.iload 7, 2) := by decide +kernel
theorem dX12_pricesOf_120 : decode cX12_pricesOf 120 = .ok (.iconst 2, 1) := by decide +kernel
theorem dX12_pricesOf_121 : decode cX12_pricesOf 121 = .ok (.iadd, 1) := by decide +kernel
theorem dX12_pricesOf_122 : decode cX12_pricesOf 122 = .ok (.iaload, 1) := by decide +kernel
theorem dX12_pricesOf_123 : decode cX12_pricesOf 123 = .ok (.iadd, 1) := by decide +kernel
theorem dX12_pricesOf_124 : decode cX12_pricesOf 124 = .ok (.istore 5, 2) := by decide +kernel
theorem dX12_pricesOf_126 : decode cX12_pricesOf 126 = .ok (.iinc 6 1, 3) := by decide +kernel
theorem dX12_pricesOf_129 : decode cX12_pricesOf 129 = .ok (.goto (-118), 3) := by decide +kernel
theorem dX12_pricesOf_132 : decode cX12_pricesOf 132 = .ok (.iload 5, 2) := by decide +kernel
theorem dX12_pricesOf_134 : decode cX12_pricesOf 134 = .ok (.ireturn, 1) := by decide +kernel
theorem dX12_bestSet_0 : decode cX12_bestSet 0 = .ok (.iconst 0, 1) := by decide +kernel
theorem dX12_bestSet_1 : decode cX12_bestSet 1 = .ok (.istore_n 2, 1) := by decide +kernel
theorem dX12_bestSet_2 : decode cX12_bestSet 2 = .ok (.iconst 1, 1) := by decide +kernel
theorem dX12_bestSet_3 : decode cX12_bestSet 3 = .ok (.istore_n 3, 1) := by decide +kernel
theorem dX12_bestSet_4 : decode cX12_bestSet 4 = .ok (.iload_n 3, 1) := by decide +kernel
theorem dX12_bestSet_5 : decode cX12_bestSet 5 = .ok (.iconst 1, 1) := by decide +kernel
theorem dX12_bestSet_6 : decode cX12_bestSet 6 = .ok (.aload_n 0, 1) := by decide +kernel
theorem dX12_bestSet_7 : decode cX12_bestSet 7 = .ok (.getfield 7, 3) := by decide +kernel
theorem dX12_bestSet_10 : decode cX12_bestSet 10 = .ok (.iconst 5, 1) := by decide +kernel
theorem dX12_bestSet_11 : decode cX12_bestSet 11 = .ok (.iaload, 1) := by decide +kernel
theorem dX12_bestSet_12 : decode cX12_bestSet 12 = .ok (.ishl, 1) := by decide +kernel
theorem dX12_bestSet_13 : decode cX12_bestSet 13 = .ok (.if_icmp .ge 26, 3) := by decide +kernel
theorem dX12_bestSet_16 : decode cX12_bestSet 16 = .ok (.aload_n 0, 1) := by decide +kernel
theorem dX12_bestSet_17 : decode cX12_bestSet 17 = .ok (.iload_n 3, 1) := by decide +kernel
theorem dX12_bestSet_18 : decode cX12_bestSet 18 = .ok (.iload_n 1, 1) := by decide +kernel
theorem dX12_bestSet_19 : decode cX12_bestSet 19 = .ok (.invokevirtual 433, 3) := by decide +kernel
theorem dX12_bestSet_22 : decode cX12_bestSet 22 = .ok (.aload_n 0, 1) := by decide +kernel
theorem dX12_bestSet_23 : decode cX12_bestSet 23 = .ok (.iload_n 2, 1) := by decide +kernel
theorem dX12_bestSet_24 : decode cX12_bestSet 24 = .ok (.iload_n 1, 1) := by decide +kernel
theorem dX12_bestSet_25 : decode cX12_bestSet 25 = .ok (.invokevirtual 433, 3) := by decide +kernel
theorem dX12_bestSet_28 : decode cX12_bestSet 28 = .ok (.if_icmp .le 5, 3) := by decide +kernel
theorem dX12_bestSet_31 : decode cX12_bestSet 31 = .ok (.iload_n 3, 1) := by decide +kernel
theorem dX12_bestSet_32 : decode cX12_bestSet 32 = .ok (.istore_n 2, 1) := by decide +kernel
theorem dX12_bestSet_33 : decode cX12_bestSet 33 = .ok (.iinc 3 1, 3) := by decide +kernel
theorem dX12_bestSet_36 : decode cX12_bestSet 36 = .ok (.goto (-32), 3) := by decide +kernel
theorem dX12_bestSet_39 : decode cX12_bestSet 39 = .ok (.iload_n 2, 1) := by decide +kernel
theorem dX12_bestSet_40 : decode cX12_bestSet 40 = .ok (.ireturn, 1) := by decide +kernel
theorem dX12_winners_0 : decode cX12_winners 0 = .ok (.iload_n 1, 1) := by decide +kernel
theorem dX12_winners_1 : decode cX12_winners 1 = .ok (.ifCond .eq 16, 3) := by decide +kernel
theorem dX12_winners_4 : decode cX12_winners 4 = .ok (.aload_n 0, 1) := by decide +kernel
theorem dX12_winners_5 : decode cX12_winners 5 = .ok (.aload_n 0, 1) := by decide +kernel
theorem dX12_winners_6 : decode cX12_winners 6 = .ok (.iconst (-1), 1) := by decide +kernel
theorem dX12_winners_7 : decode cX12_winners 7 = .ok (.invokevirtual 436, 3) := by decide +kernel
theorem dX12_winners_10 : decode cX12_winners 10 = .ok (.iconst (-1), 1) := by decide +kernel
theorem dX12_winners_11 : decode cX12_winners 11 = .ok (.invokevirtual 433, 3) := by decide +kernel
theorem dX12_winners_14 : decode cX12_winners 14 = .ok (.goto 8, 3) := by decide +kernel
theorem dX12_winners_17 : decode cX12_winners 17 = .ok (.aload_n 0, 1) := by decide +kernel
theorem dX12_winners_18 : decode cX12_winners 18 = .ok (.iconst (-1), 1) := by decide +kernel
theorem dX12_winners_19 : decode cX12_winners 19 = .ok (.invokevirtual 436, 3) := by decide +kernel
theorem dX12_winners_22 : decode cX12_winners 22 = .ok (.ireturn, 1) := by decide +kernel
theorem dX12_pays_0 : decode cX12_pays 0 = .ok (.aload_n 0, 1) := by decide +kernel
theorem dX12_pays_1 : decode cX12_pays 1 = .ok (.iload_n 1, 1) := by decide +kernel
theorem dX12_pays_2 : decode cX12_pays 2 = .ok (.invokevirtual 82, 3) := by decide +kernel
theorem dX12_pays_5 : decode cX12_pays 5 = .ok (.ifCond .ne 5, 3) := by decide +kernel
theorem dX12_pays_8 : decode cX12_pays 8 = .ok (.iconst (-1), 1) := by decide +kernel
theorem dX12_pays_9 : decode cX12_pays 9 = .ok (.ireturn, 1) := by decide +kernel
theorem dX12_pays_10 : decode cX12_pays 10 = .ok (.aload_n 0, 1) := by decide +kernel
theorem dX12_pays_11 : decode cX12_pays 11 = .ok (.iconst (-1), 1) := by decide +kernel
theorem dX12_pays_12 : decode cX12_pays 12 = .ok (.invokevirtual 436, 3) := by decide +kernel
theorem dX12_pays_15 : decode cX12_pays 15 = .ok (.istore_n 2, 1) := by decide +kernel
theorem dX12_pays_16 : decode cX12_pays 16 = .ok (.iconst 0, 1) := by decide +kernel
theorem dX12_pays_17 : decode cX12_pays 17 = .ok (.istore_n 3, 1) := by decide +kernel
theorem dX12_pays_18 : decode cX12_pays 18 = .ok (.iconst 0, 1) := by decide +kernel
theorem dX12_pays_19 : decode cX12_pays 19 = .ok (.istore 4, 2) := by decide +kernel
theorem dX12_pays_21 : decode cX12_pays 21 = .ok (.iload 4, 2) := by decide +kernel
theorem dX12_pays_23 : decode cX12_pays 23 = .ok (.aload_n 0, 1) := by decide +kernel
theorem dX12_pays_24 : decode cX12_pays 24 = .ok (.getfield 7, 3) := by decide +kernel
theorem dX12_pays_27 : decode cX12_pays 27 = .ok (.iconst 5, 1) := by decide +kernel
theorem dX12_pays_28 : decode cX12_pays 28 = .ok (.iaload, 1) := by decide +kernel
theorem dX12_pays_29 : decode cX12_pays 29 = .ok (.if_icmp .ge 57, 3) := by decide +kernel
theorem dX12_pays_32 : decode cX12_pays 32 = .ok (.iload_n 3, 1) := by decide +kernel
theorem dX12_pays_33 : decode cX12_pays 33 = .ok (.iload_n 2, 1) := by decide +kernel
theorem dX12_pays_34 : decode cX12_pays 34 = .ok (.iload 4, 2) := by decide +kernel
theorem dX12_pays_36 : decode cX12_pays 36 = .ok (.invokestatic 249, 3) := by decide +kernel
theorem dX12_pays_39 : decode cX12_pays 39 = .ok (.ifCond .eq 38, 3) := by decide +kernel
theorem dX12_pays_42 : decode cX12_pays 42 = .ok (.aload_n 0, 1) := by decide +kernel
theorem dX12_pays_43 : decode cX12_pays 43 = .ok (.getfield 7, 3) := by decide +kernel
theorem dX12_pays_46 : decode cX12_pays 46 = .ok (.sipush 153, 3) := by decide +kernel
theorem dX12_pays_49 : decode cX12_pays 49 = .ok (.iconst 3, 1) := by decide +kernel
theorem dX12_pays_50 : decode cX12_pays 50 = .ok (.iload 4, 2) := by decide +kernel
theorem dX12_pays_52 : decode cX12_pays 52 = .ok (.imul, 1) := by decide +kernel
theorem dX12_pays_53 : decode cX12_pays 53 = .ok (.iadd, 1) := by decide +kernel
theorem dX12_pays_54 : decode cX12_pays 54 = .ok (.iaload, 1) := by decide +kernel
theorem dX12_pays_55 : decode cX12_pays 55 = .ok (.iload_n 1, 1) := by decide +kernel
theorem dX12_pays_56 : decode cX12_pays 56 = .ok (.if_icmp .eq 21, 3) := by decide +kernel
theorem dX12_pays_59 : decode cX12_pays 59 = .ok (.aload_n 0, 1) := by decide +kernel
theorem dX12_pays_60 : decode cX12_pays 60 = .ok (.getfield 7, 3) := by decide +kernel
theorem dX12_pays_63 : decode cX12_pays 63 = .ok (.sipush 153, 3) := by decide +kernel
theorem dX12_pays_66 : decode cX12_pays 66 = .ok (.iconst 3, 1) := by decide +kernel
theorem dX12_pays_67 : decode cX12_pays 67 = .ok (.iload 4, 2) := by decide +kernel
theorem dX12_pays_69 : decode cX12_pays 69 = .ok (.imul, 1) := by decide +kernel
theorem dX12_pays_70 : decode cX12_pays 70 = .ok (.iadd, 1) := by decide +kernel
theorem dX12_pays_71 : decode cX12_pays 71 = .ok (.iconst 2, 1) := by decide +kernel
theorem dX12_pays_72 : decode cX12_pays 72 = .ok (.iadd, 1) := by decide +kernel
theorem dX12_pays_73 : decode cX12_pays 73 = .ok (.iaload, 1) := by decide +kernel
theorem dX12_pays_74 : decode cX12_pays 74 = .ok (.goto 4, 3) := by decide +kernel
theorem dX12_pays_77 : decode cX12_pays 77 = .ok (.iconst 0, 1) := by decide +kernel
theorem dX12_pays_78 : decode cX12_pays 78 = .ok (.iadd, 1) := by decide +kernel
theorem dX12_pays_79 : decode cX12_pays 79 = .ok (.istore_n 3, 1) := by decide +kernel
theorem dX12_pays_80 : decode cX12_pays 80 = .ok (.iinc 4 1, 3) := by decide +kernel
theorem dX12_pays_83 : decode cX12_pays 83 = .ok (.goto (-62), 3) := by decide +kernel
theorem dX12_pays_86 : decode cX12_pays 86 = .ok (.aload_n 0, 1) := by decide +kernel
theorem dX12_pays_87 : decode cX12_pays 87 = .ok (.aload_n 0, 1) := by decide +kernel
theorem dX12_pays_88 : decode cX12_pays 88 = .ok (.iload_n 1, 1) := by decide +kernel
theorem dX12_pays_89 : decode cX12_pays 89 = .ok (.invokevirtual 436, 3) := by decide +kernel
theorem dX12_pays_92 : decode cX12_pays 92 = .ok (.iload_n 1, 1) := by decide +kernel
theorem dX12_pays_93 : decode cX12_pays 93 = .ok (.invokevirtual 433, 3) := by decide +kernel
theorem dX12_pays_96 : decode cX12_pays 96 = .ok (.iload_n 3, 1) := by decide +kernel
theorem dX12_pays_97 : decode cX12_pays 97 = .ok (.isub, 1) := by decide +kernel
theorem dX12_pays_98 : decode cX12_pays 98 = .ok (.ireturn, 1) := by decide +kernel
theorem dX12_worthOf_0 : decode cX12_worthOf 0 = .ok (.iconst 0, 1) := by decide +kernel
theorem dX12_worthOf_1 : decode cX12_worthOf 1 = .ok (.istore_n 2, 1) := by decide +kernel
theorem dX12_worthOf_2 : decode cX12_worthOf 2 = .ok (.iconst 0, 1) := by decide +kernel
theorem dX12_worthOf_3 : decode cX12_worthOf 3 = .ok (.istore_n 3, 1) := by decide +kernel
theorem dX12_worthOf_4 : decode cX12_worthOf 4 = .ok (.iload_n 3, 1) := by decide +kernel
theorem dX12_worthOf_5 : decode cX12_worthOf 5 = .ok (.aload_n 0, 1) := by decide +kernel
theorem dX12_worthOf_6 : decode cX12_worthOf 6 = .ok (.getfield 7, 3) := by decide +kernel
theorem dX12_worthOf_9 : decode cX12_worthOf 9 = .ok (.iconst 0, 1) := by decide +kernel
theorem dX12_worthOf_10 : decode cX12_worthOf 10 = .ok (.iaload, 1) := by decide +kernel
theorem dX12_worthOf_11 : decode cX12_worthOf 11 = .ok (.if_icmp .ge 30, 3) := by decide +kernel
theorem dX12_worthOf_14 : decode cX12_worthOf 14 = .ok (.iload_n 2, 1) := by decide +kernel
theorem dX12_worthOf_15 : decode cX12_worthOf 15 = .ok (.iload_n 1, 1) := by decide +kernel
theorem dX12_worthOf_16 : decode cX12_worthOf 16 = .ok (.iload_n 3, 1) := by decide +kernel
theorem dX12_worthOf_17 : decode cX12_worthOf 17 = .ok (.invokestatic 249, 3) := by decide +kernel
theorem dX12_worthOf_20 : decode cX12_worthOf 20 = .ok (.ifCond .eq 12, 3) := by decide +kernel
theorem dX12_worthOf_23 : decode cX12_worthOf 23 = .ok (.aload_n 0, 1) := by decide +kernel
theorem dX12_worthOf_24 : decode cX12_worthOf 24 = .ok (.iload_n 3, 1) := by decide +kernel
theorem dX12_worthOf_25 : decode cX12_worthOf 25 = .ok (.iconst 2, 1) := by decide +kernel
theorem dX12_worthOf_26 : decode cX12_worthOf 26 = .ok (.invokevirtual 68, 3) := by decide +kernel
theorem dX12_worthOf_29 : decode cX12_worthOf 29 = .ok (.goto 4, 3) := by decide +kernel
theorem dX12_worthOf_32 : decode cX12_worthOf 32 = .ok (.iconst 0, 1) := by decide +kernel
theorem dX12_worthOf_33 : decode cX12_worthOf 33 = .ok (.iadd, 1) := by decide +kernel
theorem dX12_worthOf_34 : decode cX12_worthOf 34 = .ok (.istore_n 2, 1) := by decide +kernel
theorem dX12_worthOf_35 : decode cX12_worthOf 35 = .ok (.iinc 3 1, 3) := by decide +kernel
theorem dX12_worthOf_38 : decode cX12_worthOf 38 = .ok (.goto (-34), 3) := by decide +kernel
theorem dX12_worthOf_41 : decode cX12_worthOf 41 = .ok (.iload_n 2, 1) := by decide +kernel
theorem dX12_worthOf_42 : decode cX12_worthOf 42 = .ok (.ireturn, 1) := by decide +kernel
theorem dX12_canKeep_0 : decode cX12_canKeep 0 = .ok (.iconst 1, 1) := by decide +kernel
theorem dX12_canKeep_1 : decode cX12_canKeep 1 = .ok (.istore_n 3, 1) := by decide +kernel
theorem dX12_canKeep_2 : decode cX12_canKeep 2 = .ok (.iload_n 3, 1) := by decide +kernel
theorem dX12_canKeep_3 : decode cX12_canKeep 3 = .ok (.bipush 6, 2) := by decide +kernel
theorem dX12_canKeep_5 : decode cX12_canKeep 5 = .ok (.aload_n 0, 1) := by decide +kernel
theorem dX12_canKeep_6 : decode cX12_canKeep 6 = .ok (.invokevirtual 349, 3) := by decide +kernel
theorem dX12_canKeep_9 : decode cX12_canKeep 9 = .ok (.isub, 1) := by decide +kernel
theorem dX12_canKeep_10 : decode cX12_canKeep 10 = .ok (.if_icmp .gt 79, 3) := by decide +kernel
theorem dX12_canKeep_13 : decode cX12_canKeep 13 = .ok (.iconst 0, 1) := by decide +kernel
theorem dX12_canKeep_14 : decode cX12_canKeep 14 = .ok (.istore 4, 2) := by decide +kernel
theorem dX12_canKeep_16 : decode cX12_canKeep 16 = .ok (.iconst 0, 1) := by decide +kernel
theorem dX12_canKeep_17 : decode cX12_canKeep 17 = .ok (.istore 5, 2) := by decide +kernel
theorem dX12_canKeep_19 : decode cX12_canKeep 19 = .ok (.iload 5, 2) := by decide +kernel
theorem dX12_canKeep_21 : decode cX12_canKeep 21 = .ok (.aload_n 0, 1) := by decide +kernel
theorem dX12_canKeep_22 : decode cX12_canKeep 22 = .ok (.getfield 7, 3) := by decide +kernel
theorem dX12_canKeep_25 : decode cX12_canKeep 25 = .ok (.iconst 0, 1) := by decide +kernel
theorem dX12_canKeep_26 : decode cX12_canKeep 26 = .ok (.iaload, 1) := by decide +kernel
theorem dX12_canKeep_27 : decode cX12_canKeep 27 = .ok (.if_icmp .ge 46, 3) := by decide +kernel
theorem dX12_canKeep_30 : decode cX12_canKeep 30 = .ok (.iload 4, 2) := by decide +kernel
theorem dX12_canKeep_32 : decode cX12_canKeep 32 = .ok (.iload_n 1, 1) := by decide +kernel
theorem dX12_canKeep_33 : decode cX12_canKeep 33 = .ok (.iload 5, 2) := by decide +kernel
theorem dX12_canKeep_35 : decode cX12_canKeep 35 = .ok (.invokestatic 249, 3) := by decide +kernel
theorem dX12_canKeep_38 : decode cX12_canKeep 38 = .ok (.ifCond .eq 25, 3) := by decide +kernel
theorem dX12_canKeep_41 : decode cX12_canKeep 41 = .ok (.aload_n 0, 1) := by decide +kernel
theorem dX12_canKeep_42 : decode cX12_canKeep 42 = .ok (.iload 5, 2) := by decide +kernel
theorem dX12_canKeep_44 : decode cX12_canKeep 44 = .ok (.iconst 0, 1) := by decide +kernel
theorem dX12_canKeep_45 : decode cX12_canKeep 45 = .ok (.invokevirtual 68, 3) := by decide +kernel
theorem dX12_canKeep_48 : decode cX12_canKeep 48 = .ok (.aload_n 0, 1) := by decide +kernel
theorem dX12_canKeep_49 : decode cX12_canKeep 49 = .ok (.invokevirtual 349, 3) := by decide +kernel
theorem dX12_canKeep_52 : decode cX12_canKeep 52 = .ok (.isub, 1) := by decide +kernel
theorem dX12_canKeep_53 : decode cX12_canKeep 53 = .ok (.iconst 1, 1) := by decide +kernel
theorem dX12_canKeep_54 : decode cX12_canKeep 54 = .ok (.iadd, 1) := by decide +kernel
theorem dX12_canKeep_55 : decode cX12_canKeep 55 = .ok (.iload_n 3, 1) := by decide +kernel
theorem dX12_canKeep_56 : decode cX12_canKeep 56 = .ok (.if_icmp .gt 7, 3) := by decide +kernel
theorem dX12_canKeep_59 : decode cX12_canKeep 59 = .ok (.iconst 1, 1) := by decide +kernel
theorem dX12_canKeep_60 : decode cX12_canKeep 60 = .ok (.goto 4, 3) := by decide +kernel
theorem dX12_canKeep_63 : decode cX12_canKeep 63 = .ok (.iconst 0, 1) := by decide +kernel
theorem dX12_canKeep_64 : decode cX12_canKeep 64 = .ok (.iadd, 1) := by decide +kernel
theorem dX12_canKeep_65 : decode cX12_canKeep 65 = .ok (.istore 4, 2) := by decide +kernel
theorem dX12_canKeep_67 : decode cX12_canKeep 67 = .ok (.iinc 5 1, 3) := by decide +kernel
theorem dX12_canKeep_70 : decode cX12_canKeep 70 = .ok (.goto (-51), 3) := by decide +kernel
theorem dX12_canKeep_73 : decode cX12_canKeep 73 = .ok (.iload 4, 2) := by decide +kernel
theorem dX12_canKeep_75 : decode cX12_canKeep 75 = .ok (.iload_n 2, 1) := by decide +kernel
theorem dX12_canKeep_76 : decode cX12_canKeep 76 = .ok (.iload_n 3, 1) := by decide +kernel
theorem dX12_canKeep_77 : decode cX12_canKeep 77 = .ok (.imul, 1) := by decide +kernel
theorem dX12_canKeep_78 : decode cX12_canKeep 78 = .ok (.if_icmp .le 5, 3) := by decide +kernel
theorem dX12_canKeep_81 : decode cX12_canKeep 81 = .ok (.iconst 0, 1) := by decide +kernel
theorem dX12_canKeep_82 : decode cX12_canKeep 82 = .ok (.ireturn, 1) := by decide +kernel
theorem dX12_canKeep_83 : decode cX12_canKeep 83 = .ok (.iinc 3 1, 3) := by decide +kernel
theorem dX12_canKeep_86 : decode cX12_canKeep 86 = .ok (.goto (-84), 3) := by decide +kernel
theorem dX12_canKeep_89 : decode cX12_canKeep 89 = .ok (.iconst 1, 1) := by decide +kernel
theorem dX12_canKeep_90 : decode cX12_canKeep 90 = .ok (.ireturn, 1) := by decide +kernel
theorem dX12_kept_0 : decode cX12_kept 0 = .ok (.iload_n 1, 1) := by decide +kernel
theorem dX12_kept_1 : decode cX12_kept 1 = .ok (.iconst 1, 1) := by decide +kernel
theorem dX12_kept_2 : decode cX12_kept 2 = .ok (.bipush 12, 2) := by decide +kernel
theorem dX12_kept_4 : decode cX12_kept 4 = .ok (.invokestatic 60, 3) := by decide +kernel
theorem dX12_kept_7 : decode cX12_kept 7 = .ok (.ifCond .ne 5, 3) := by decide +kernel
theorem dX12_kept_10 : decode cX12_kept 10 = .ok (.iconst (-1), 1) := by decide +kernel
theorem dX12_kept_11 : decode cX12_kept 11 = .ok (.ireturn, 1) := by decide +kernel
theorem dX12_kept_12 : decode cX12_kept 12 = .ok (.iconst 0, 1) := by decide +kernel
theorem dX12_kept_13 : decode cX12_kept 13 = .ok (.istore_n 3, 1) := by decide +kernel
theorem dX12_kept_14 : decode cX12_kept 14 = .ok (.aload_n 0, 1) := by decide +kernel
theorem dX12_kept_15 : decode cX12_kept 15 = .ok (.invokevirtual 349, 3) := by decide +kernel
theorem dX12_kept_18 : decode cX12_kept 18 = .ok (.istore 4, 2) := by decide +kernel
theorem dX12_kept_20 : decode cX12_kept 20 = .ok (.iload 4, 2) := by decide +kernel
theorem dX12_kept_22 : decode cX12_kept 22 = .ok (.iconst 5, 1) := by decide +kernel
theorem dX12_kept_23 : decode cX12_kept 23 = .ok (.if_icmp .gt 18, 3) := by decide +kernel
theorem dX12_kept_26 : decode cX12_kept 26 = .ok (.iload_n 3, 1) := by decide +kernel
theorem dX12_kept_27 : decode cX12_kept 27 = .ok (.aload_n 0, 1) := by decide +kernel
theorem dX12_kept_28 : decode cX12_kept 28 = .ok (.iload 4, 2) := by decide +kernel
theorem dX12_kept_30 : decode cX12_kept 30 = .ok (.invokevirtual 406, 3) := by decide +kernel
theorem dX12_kept_33 : decode cX12_kept 33 = .ok (.ior, 1) := by decide +kernel
theorem dX12_kept_34 : decode cX12_kept 34 = .ok (.istore_n 3, 1) := by decide +kernel
theorem dX12_kept_35 : decode cX12_kept 35 = .ok (.iinc 4 1, 3) := by decide +kernel
theorem dX12_kept_38 : decode cX12_kept 38 = .ok (.goto (-18), 3) := by decide +kernel
theorem dX12_kept_41 : decode cX12_kept 41 = .ok (.iconst 0, 1) := by decide +kernel
theorem dX12_kept_42 : decode cX12_kept 42 = .ok (.istore 4, 2) := by decide +kernel
theorem dX12_kept_44 : decode cX12_kept 44 = .ok (.iconst 1, 1) := by decide +kernel
theorem dX12_kept_45 : decode cX12_kept 45 = .ok (.istore 5, 2) := by decide +kernel
theorem dX12_kept_47 : decode cX12_kept 47 = .ok (.iload 5, 2) := by decide +kernel
theorem dX12_kept_49 : decode cX12_kept 49 = .ok (.iload_n 3, 1) := by decide +kernel
theorem dX12_kept_50 : decode cX12_kept 50 = .ok (.if_icmp .gt 73, 3) := by decide +kernel
theorem dX12_kept_53 : decode cX12_kept 53 = .ok (.iload 5, 2) := by decide +kernel
theorem dX12_kept_55 : decode cX12_kept 55 = .ok (.iload_n 3, 1) := by decide +kernel
theorem dX12_kept_56 : decode cX12_kept 56 = .ok (.iconst (-1), 1) := by decide +kernel
theorem dX12_kept_57 : decode cX12_kept 57 = .ok (.ixor, 1) := by decide +kernel
theorem dX12_kept_58 : decode cX12_kept 58 = .ok (.iand, 1) := by decide +kernel
theorem dX12_kept_59 : decode cX12_kept 59 = .ok (.ifCond .eq 6, 3) := by decide +kernel
theorem dX12_kept_62 : decode cX12_kept 62 = .ok (.goto 55, 3) := by decide +kernel
theorem dX12_kept_65 : decode cX12_kept 65 = .ok (.aload_n 0, 1) := by decide +kernel
theorem dX12_kept_66 : decode cX12_kept 66 = .ok (.iload 5, 2) := by decide +kernel
theorem dX12_kept_68 : decode cX12_kept 68 = .ok (.invokevirtual 439, 3) := by decide +kernel
theorem dX12_kept_71 : decode cX12_kept 71 = .ok (.aload_n 0, 1) := by decide +kernel
theorem dX12_kept_72 : decode cX12_kept 72 = .ok (.iload 4, 2) := by decide +kernel
theorem dX12_kept_74 : decode cX12_kept 74 = .ok (.invokevirtual 439, 3) := by decide +kernel
theorem dX12_kept_77 : decode cX12_kept 77 = .ok (.isub, 1) := by decide +kernel
theorem dX12_kept_78 : decode cX12_kept 78 = .ok (.istore 6, 2) := by decide +kernel
theorem dX12_kept_80 : decode cX12_kept 80 = .ok (.iload 6, 2) := by decide +kernel
theorem dX12_kept_82 : decode cX12_kept 82 = .ok (.ifCond .gt 21, 3) := by decide +kernel
theorem dX12_kept_85 : decode cX12_kept 85 = .ok (.iload 6, 2) := by decide +kernel
theorem dX12_kept_87 : decode cX12_kept 87 = .ok (.ifCond .ne 30, 3) := by decide +kernel
theorem dX12_kept_90 : decode cX12_kept 90 = .ok (.iload 5, 2) := by decide +kernel
theorem dX12_kept_92 : decode cX12_kept 92 = .ok (.invokestatic 305, 3) := by decide +kernel
theorem dX12_kept_95 : decode cX12_kept 95 = .ok (.iload 4, 2) := by decide +kernel
theorem dX12_kept_97 : decode cX12_kept 97 = .ok (.invokestatic 305, 3) := by decide +kernel
theorem dX12_kept_100 : decode cX12_kept 100 = .ok (.if_icmp .ge 17, 3) := by decide +kernel
theorem dX12_kept_103 : decode cX12_kept 103 = .ok (.aload_n 0, 1) := by decide +kernel
theorem dX12_kept_104 : decode cX12_kept 104 = .ok (.iload 5, 2) := by decide +kernel
theorem dX12_kept_106 : decode cX12_kept 106 = .ok (.iload_n 1, 1) := by decide +kernel
theorem dX12_kept_107 : decode cX12_kept 107 = .ok (.invokevirtual 442, 3) := by decide +kernel
theorem dX12_kept_110 : decode cX12_kept 110 = .ok (.ifCond .eq 7, 3) := by decide +kernel
theorem dX12_kept_113 : decode cX12_kept 113 = .ok (.iload 5, 2) := by decide +kernel
theorem dX12_kept_115 : decode cX12_kept 115 = .ok (.istore 4, 2) := by decide +kernel
theorem dX12_kept_117 : decode cX12_kept 117 = .ok (.iinc 5 1, 3) := by decide +kernel
theorem dX12_kept_120 : decode cX12_kept 120 = .ok (.goto (-73), 3) := by decide +kernel
theorem dX12_kept_123 : decode cX12_kept 123 = .ok (.iload_n 2, 1) := by decide +kernel
theorem dX12_kept_124 : decode cX12_kept 124 = .ok (.ifCond .eq 12, 3) := by decide +kernel
theorem dX12_kept_127 : decode cX12_kept 127 = .ok (.aload_n 0, 1) := by decide +kernel
theorem dX12_kept_128 : decode cX12_kept 128 = .ok (.iload 4, 2) := by decide +kernel
theorem dX12_kept_130 : decode cX12_kept 130 = .ok (.invokevirtual 439, 3) := by decide +kernel
theorem dX12_kept_133 : decode cX12_kept 133 = .ok (.goto 5, 3) := by decide +kernel
theorem dX12_kept_136 : decode cX12_kept 136 = .ok (.iload 4, 2) := by decide +kernel
theorem dX12_kept_138 : decode cX12_kept 138 = .ok (.ireturn, 1) := by decide +kernel
theorem dX12_stair_0 : decode cX12_stair 0 = .ok (.iload_n 1, 1) := by decide +kernel
theorem dX12_stair_1 : decode cX12_stair 1 = .ok (.invokestatic 72, 3) := by decide +kernel
theorem dX12_stair_4 : decode cX12_stair 4 = .ok (.ifCond .eq 32, 3) := by decide +kernel
theorem dX12_stair_7 : decode cX12_stair 7 = .ok (.iload_n 2, 1) := by decide +kernel
theorem dX12_stair_8 : decode cX12_stair 8 = .ok (.invokestatic 72, 3) := by decide +kernel
theorem dX12_stair_11 : decode cX12_stair 11 = .ok (.ifCond .eq 25, 3) := by decide +kernel
theorem dX12_stair_14 : decode cX12_stair 14 = .ok (.iload_n 1, 1) := by decide +kernel
theorem dX12_stair_15 : decode cX12_stair 15 = .ok (.iload_n 2, 1) := by decide +kernel
theorem dX12_stair_16 : decode cX12_stair 16 = .ok (.if_icmp .eq 20, 3) := by decide +kernel
theorem dX12_stair_19 : decode cX12_stair 19 = .ok (.aload_n 0, 1) := by decide +kernel
theorem dX12_stair_20 : decode cX12_stair 20 = .ok (.getfield 7, 3) := by decide +kernel
theorem dX12_stair_23 : decode cX12_stair 23 = .ok (.sipush 141, 3) := by decide +kernel
theorem dX12_stair_26 : decode cX12_stair 26 = .ok (.iload_n 1, 1) := by decide +kernel
theorem dX12_stair_27 : decode cX12_stair 27 = .ok (.iadd, 1) := by decide +kernel
theorem dX12_stair_28 : decode cX12_stair 28 = .ok (.iaload, 1) := by decide +kernel
theorem dX12_stair_29 : decode cX12_stair 29 = .ok (.iload_n 2, 1) := by decide +kernel
theorem dX12_stair_30 : decode cX12_stair 30 = .ok (.invokestatic 249, 3) := by decide +kernel
theorem dX12_stair_33 : decode cX12_stair 33 = .ok (.ifCond .eq 5, 3) := by decide +kernel
theorem dX12_stair_36 : decode cX12_stair 36 = .ok (.iconst 0, 1) := by decide +kernel
theorem dX12_stair_37 : decode cX12_stair 37 = .ok (.ireturn, 1) := by decide +kernel
theorem dX12_stair_38 : decode cX12_stair 38 = .ok (.aload_n 0, 1) := by decide +kernel
theorem dX12_stair_39 : decode cX12_stair 39 = .ok (.iload_n 1, 1) := by decide +kernel
theorem dX12_stair_40 : decode cX12_stair 40 = .ok (.iload_n 2, 1) := by decide +kernel
theorem dX12_stair_41 : decode cX12_stair 41 = .ok (.invokevirtual 445, 3) := by decide +kernel
theorem dX12_stair_44 : decode cX12_stair 44 = .ok (.iconst 1, 1) := by decide +kernel
theorem dX12_stair_45 : decode cX12_stair 45 = .ok (.ireturn, 1) := by decide +kernel
theorem dX12_turnStair_0 : decode cX12_turnStair 0 = .ok (.aload_n 0, 1) := by decide +kernel
theorem dX12_turnStair_1 : decode cX12_turnStair 1 = .ok (.getfield 7, 3) := by decide +kernel
theorem dX12_turnStair_4 : decode cX12_turnStair 4 = .ok (.sipush 141, 3) := by decide +kernel
theorem dX12_turnStair_7 : decode cX12_turnStair 7 = .ok (.iload_n 1, 1) := by decide +kernel
theorem dX12_turnStair_8 : decode cX12_turnStair 8 = .ok (.iadd, 1) := by decide +kernel
theorem dX12_turnStair_9 : decode cX12_turnStair 9 = .ok (.dup2, 1) := by decide +kernel
theorem dX12_turnStair_10 : decode cX12_turnStair 10 = .ok (.iaload, 1) := by decide +kernel
theorem dX12_turnStair_11 : decode cX12_turnStair 11 = .ok (.iconst 1, 1) := by decide +kernel
theorem dX12_turnStair_12 : decode cX12_turnStair 12 = .ok (.iload_n 2, 1) := by decide +kernel
theorem dX12_turnStair_13 : decode cX12_turnStair 13 = .ok (.ishl, 1) := by decide +kernel
theorem dX12_turnStair_14 : decode cX12_turnStair 14 = .ok (.ixor, 1) := by decide +kernel
theorem dX12_turnStair_15 : decode cX12_turnStair 15 = .ok (.iastore, 1) := by decide +kernel
theorem dX12_turnStair_16 : decode cX12_turnStair 16 = .ok (.aload_n 0, 1) := by decide +kernel
theorem dX12_turnStair_17 : decode cX12_turnStair 17 = .ok (.getfield 7, 3) := by decide +kernel
theorem dX12_turnStair_20 : decode cX12_turnStair 20 = .ok (.sipush 141, 3) := by decide +kernel
theorem dX12_turnStair_23 : decode cX12_turnStair 23 = .ok (.iload_n 2, 1) := by decide +kernel
theorem dX12_turnStair_24 : decode cX12_turnStair 24 = .ok (.iadd, 1) := by decide +kernel
theorem dX12_turnStair_25 : decode cX12_turnStair 25 = .ok (.dup2, 1) := by decide +kernel
theorem dX12_turnStair_26 : decode cX12_turnStair 26 = .ok (.iaload, 1) := by decide +kernel
theorem dX12_turnStair_27 : decode cX12_turnStair 27 = .ok (.iconst 1, 1) := by decide +kernel
theorem dX12_turnStair_28 : decode cX12_turnStair 28 = .ok (.iload_n 1, 1) := by decide +kernel
theorem dX12_turnStair_29 : decode cX12_turnStair 29 = .ok (.ishl, 1) := by decide +kernel
theorem dX12_turnStair_30 : decode cX12_turnStair 30 = .ok (.ixor, 1) := by decide +kernel
theorem dX12_turnStair_31 : decode cX12_turnStair 31 = .ok (.iastore, 1) := by decide +kernel
theorem dX12_turnStair_32 : decode cX12_turnStair 32 = .ok (.return_, 1) := by decide +kernel
theorem dX12_gone_0 : decode cX12_gone 0 = .ok (.iload_n 1, 1) := by decide +kernel
theorem dX12_gone_1 : decode cX12_gone 1 = .ok (.invokestatic 72, 3) := by decide +kernel
theorem dX12_gone_4 : decode cX12_gone 4 = .ok (.ifCond .eq 27, 3) := by decide +kernel
theorem dX12_gone_7 : decode cX12_gone 7 = .ok (.iload_n 2, 1) := by decide +kernel
theorem dX12_gone_8 : decode cX12_gone 8 = .ok (.invokestatic 72, 3) := by decide +kernel
theorem dX12_gone_11 : decode cX12_gone 11 = .ok (.ifCond .eq 20, 3) := by decide +kernel
theorem dX12_gone_14 : decode cX12_gone 14 = .ok (.aload_n 0, 1) := by decide +kernel
theorem dX12_gone_15 : decode cX12_gone 15 = .ok (.getfield 7, 3) := by decide +kernel
theorem dX12_gone_18 : decode cX12_gone 18 = .ok (.sipush 141, 3) := by decide +kernel
theorem dX12_gone_21 : decode cX12_gone 21 = .ok (.iload_n 1, 1) := by decide +kernel
theorem dX12_gone_22 : decode cX12_gone 22 = .ok (.iadd, 1) := by decide +kernel
theorem dX12_gone_23 : decode cX12_gone 23 = .ok (.iaload, 1) := by decide +kernel
theorem dX12_gone_24 : decode cX12_gone 24 = .ok (.iload_n 2, 1) := by decide +kernel
theorem dX12_gone_25 : decode cX12_gone 25 = .ok (.invokestatic 249, 3) := by decide +kernel
theorem dX12_gone_28 : decode cX12_gone 28 = .ok (.ifCond .ne 5, 3) := by decide +kernel
theorem dX12_gone_31 : decode cX12_gone 31 = .ok (.iconst 0, 1) := by decide +kernel
theorem dX12_gone_32 : decode cX12_gone 32 = .ok (.ireturn, 1) := by decide +kernel
theorem dX12_gone_33 : decode cX12_gone 33 = .ok (.aload_n 0, 1) := by decide +kernel
theorem dX12_gone_34 : decode cX12_gone 34 = .ok (.iload_n 1, 1) := by decide +kernel
theorem dX12_gone_35 : decode cX12_gone 35 = .ok (.iload_n 2, 1) := by decide +kernel
theorem dX12_gone_36 : decode cX12_gone 36 = .ok (.invokevirtual 445, 3) := by decide +kernel
theorem dX12_gone_39 : decode cX12_gone 39 = .ok (.iconst 1, 1) := by decide +kernel
theorem dX12_gone_40 : decode cX12_gone 40 = .ok (.ireturn, 1) := by decide +kernel
theorem dX12_oneOn_0 : decode cX12_oneOn 0 = .ok (.iload_n 1, 1) := by decide +kernel
theorem dX12_oneOn_1 : decode cX12_oneOn 1 = .ok (.istore_n 2, 1) := by decide +kernel
theorem dX12_oneOn_2 : decode cX12_oneOn 2 = .ok (.iconst 0, 1) := by decide +kernel
theorem dX12_oneOn_3 : decode cX12_oneOn 3 = .ok (.istore_n 3, 1) := by decide +kernel
theorem dX12_oneOn_4 : decode cX12_oneOn 4 = .ok (.iload_n 3, 1) := by decide +kernel
theorem dX12_oneOn_5 : decode cX12_oneOn 5 = .ok (.iconst 5, 1) := by decide +kernel
theorem dX12_oneOn_6 : decode cX12_oneOn 6 = .ok (.if_icmp .gt 34, 3) := by decide +kernel
theorem dX12_oneOn_9 : decode cX12_oneOn 9 = .ok (.iload_n 2, 1) := by decide +kernel
theorem dX12_oneOn_10 : decode cX12_oneOn 10 = .ok (.iload_n 1, 1) := by decide +kernel
theorem dX12_oneOn_11 : decode cX12_oneOn 11 = .ok (.iload_n 3, 1) := by decide +kernel
theorem dX12_oneOn_12 : decode cX12_oneOn 12 = .ok (.invokestatic 249, 3) := by decide +kernel
theorem dX12_oneOn_15 : decode cX12_oneOn 15 = .ok (.ifCond .eq 16, 3) := by decide +kernel
theorem dX12_oneOn_18 : decode cX12_oneOn 18 = .ok (.aload_n 0, 1) := by decide +kernel
theorem dX12_oneOn_19 : decode cX12_oneOn 19 = .ok (.getfield 7, 3) := by decide +kernel
theorem dX12_oneOn_22 : decode cX12_oneOn 22 = .ok (.sipush 141, 3) := by decide +kernel
theorem dX12_oneOn_25 : decode cX12_oneOn 25 = .ok (.iload_n 3, 1) := by decide +kernel
theorem dX12_oneOn_26 : decode cX12_oneOn 26 = .ok (.iadd, 1) := by decide +kernel
theorem dX12_oneOn_27 : decode cX12_oneOn 27 = .ok (.iaload, 1) := by decide +kernel
theorem dX12_oneOn_28 : decode cX12_oneOn 28 = .ok (.goto 4, 3) := by decide +kernel
theorem dX12_oneOn_31 : decode cX12_oneOn 31 = .ok (.iconst 0, 1) := by decide +kernel
theorem dX12_oneOn_32 : decode cX12_oneOn 32 = .ok (.ior, 1) := by decide +kernel
theorem dX12_oneOn_33 : decode cX12_oneOn 33 = .ok (.istore_n 2, 1) := by decide +kernel
theorem dX12_oneOn_34 : decode cX12_oneOn 34 = .ok (.iinc 3 1, 3) := by decide +kernel
theorem dX12_oneOn_37 : decode cX12_oneOn 37 = .ok (.goto (-33), 3) := by decide +kernel
theorem dX12_oneOn_40 : decode cX12_oneOn 40 = .ok (.iload_n 2, 1) := by decide +kernel
theorem dX12_oneOn_41 : decode cX12_oneOn 41 = .ok (.ireturn, 1) := by decide +kernel
theorem dX12_climb_0 : decode cX12_climb 0 = .ok (.iload_n 1, 1) := by decide +kernel
theorem dX12_climb_1 : decode cX12_climb 1 = .ok (.invokestatic 72, 3) := by decide +kernel
theorem dX12_climb_4 : decode cX12_climb 4 = .ok (.ifCond .eq 10, 3) := by decide +kernel
theorem dX12_climb_7 : decode cX12_climb 7 = .ok (.iload_n 2, 1) := by decide +kernel
theorem dX12_climb_8 : decode cX12_climb 8 = .ok (.invokestatic 72, 3) := by decide +kernel
theorem dX12_climb_11 : decode cX12_climb 11 = .ok (.ifCond .ne 5, 3) := by decide +kernel
theorem dX12_climb_14 : decode cX12_climb 14 = .ok (.iconst (-1), 1) := by decide +kernel
theorem dX12_climb_15 : decode cX12_climb 15 = .ok (.ireturn, 1) := by decide +kernel
theorem dX12_climb_16 : decode cX12_climb 16 = .ok (.iconst 1, 1) := by decide +kernel
theorem dX12_climb_17 : decode cX12_climb 17 = .ok (.iload_n 1, 1) := by decide +kernel
theorem dX12_climb_18 : decode cX12_climb 18 = .ok (.ishl, 1) := by decide +kernel
theorem dX12_climb_19 : decode cX12_climb 19 = .ok (.istore_n 3, 1) := by decide +kernel
theorem dX12_climb_20 : decode cX12_climb 20 = .ok (.iconst 0, 1) := by decide +kernel
theorem dX12_climb_21 : decode cX12_climb 21 = .ok (.istore 4, 2) := by decide +kernel
theorem dX12_climb_23 : decode cX12_climb 23 = .ok (.iload 4, 2) := by decide +kernel
theorem dX12_climb_25 : decode cX12_climb 25 = .ok (.iconst 5, 1) := by decide +kernel
theorem dX12_climb_26 : decode cX12_climb 26 = .ok (.if_icmp .gt 26, 3) := by decide +kernel
theorem dX12_climb_29 : decode cX12_climb 29 = .ok (.iload_n 3, 1) := by decide +kernel
theorem dX12_climb_30 : decode cX12_climb 30 = .ok (.iload_n 2, 1) := by decide +kernel
theorem dX12_climb_31 : decode cX12_climb 31 = .ok (.invokestatic 249, 3) := by decide +kernel
theorem dX12_climb_34 : decode cX12_climb 34 = .ok (.ifCond .eq 6, 3) := by decide +kernel
theorem dX12_climb_37 : decode cX12_climb 37 = .ok (.iload 4, 2) := by decide +kernel
theorem dX12_climb_39 : decode cX12_climb 39 = .ok (.ireturn, 1) := by decide +kernel
theorem dX12_climb_40 : decode cX12_climb 40 = .ok (.aload_n 0, 1) := by decide +kernel
theorem dX12_climb_41 : decode cX12_climb 41 = .ok (.iload_n 3, 1) := by decide +kernel
theorem dX12_climb_42 : decode cX12_climb 42 = .ok (.invokevirtual 448, 3) := by decide +kernel
theorem dX12_climb_45 : decode cX12_climb 45 = .ok (.istore_n 3, 1) := by decide +kernel
theorem dX12_climb_46 : decode cX12_climb 46 = .ok (.iinc 4 1, 3) := by decide +kernel
theorem dX12_climb_49 : decode cX12_climb 49 = .ok (.goto (-26), 3) := by decide +kernel
theorem dX12_climb_52 : decode cX12_climb 52 = .ok (.iconst (-1), 1) := by decide +kernel
theorem dX12_climb_53 : decode cX12_climb 53 = .ok (.ireturn, 1) := by decide +kernel
theorem dX12_cut_0 : decode cX12_cut 0 = .ok (.iload_n 1, 1) := by decide +kernel
theorem dX12_cut_1 : decode cX12_cut 1 = .ok (.invokestatic 72, 3) := by decide +kernel
theorem dX12_cut_4 : decode cX12_cut 4 = .ok (.ifCond .eq 15, 3) := by decide +kernel
theorem dX12_cut_7 : decode cX12_cut 7 = .ok (.iload_n 2, 1) := by decide +kernel
theorem dX12_cut_8 : decode cX12_cut 8 = .ok (.invokestatic 72, 3) := by decide +kernel
theorem dX12_cut_11 : decode cX12_cut 11 = .ok (.ifCond .eq 8, 3) := by decide +kernel
theorem dX12_cut_14 : decode cX12_cut 14 = .ok (.iload_n 1, 1) := by decide +kernel
theorem dX12_cut_15 : decode cX12_cut 15 = .ok (.iload_n 2, 1) := by decide +kernel
theorem dX12_cut_16 : decode cX12_cut 16 = .ok (.if_icmp .ne 5, 3) := by decide +kernel
theorem dX12_cut_19 : decode cX12_cut 19 = .ok (.iconst (-1), 1) := by decide +kernel
theorem dX12_cut_20 : decode cX12_cut 20 = .ok (.ireturn, 1) := by decide +kernel
theorem dX12_cut_21 : decode cX12_cut 21 = .ok (.bipush 99, 2) := by decide +kernel
theorem dX12_cut_23 : decode cX12_cut 23 = .ok (.istore_n 3, 1) := by decide +kernel
theorem dX12_cut_24 : decode cX12_cut 24 = .ok (.iconst 0, 1) := by decide +kernel
theorem dX12_cut_25 : decode cX12_cut 25 = .ok (.istore 4, 2) := by decide +kernel
theorem dX12_cut_27 : decode cX12_cut 27 = .ok (.iload 4, 2) := by decide +kernel
theorem dX12_cut_29 : decode cX12_cut 29 = .ok (.bipush 64, 2) := by decide +kernel
theorem dX12_cut_31 : decode cX12_cut 31 = .ok (.if_icmp .ge 99, 3) := by decide +kernel
theorem dX12_cut_34 : decode cX12_cut 34 = .ok (.iload 4, 2) := by decide +kernel
theorem dX12_cut_36 : decode cX12_cut 36 = .ok (.iload_n 1, 1) := by decide +kernel
theorem dX12_cut_37 : decode cX12_cut 37 = .ok (.invokestatic 249, 3) := by decide +kernel
theorem dX12_cut_40 : decode cX12_cut 40 = .ok (.ifCond .eq 84, 3) := by decide +kernel
theorem dX12_cut_43 : decode cX12_cut 43 = .ok (.iload 4, 2) := by decide +kernel
theorem dX12_cut_45 : decode cX12_cut 45 = .ok (.iload_n 2, 1) := by decide +kernel
theorem dX12_cut_46 : decode cX12_cut 46 = .ok (.invokestatic 249, 3) := by decide +kernel
theorem dX12_cut_49 : decode cX12_cut 49 = .ok (.ifCond .eq 6, 3) := by decide +kernel
theorem dX12_cut_52 : decode cX12_cut 52 = .ok (.goto 72, 3) := by decide +kernel
theorem dX12_cut_55 : decode cX12_cut 55 = .ok (.iconst 0, 1) := by decide +kernel
theorem dX12_cut_56 : decode cX12_cut 56 = .ok (.istore 5, 2) := by decide +kernel
theorem dX12_cut_58 : decode cX12_cut 58 = .ok (.iconst 0, 1) := by decide +kernel
theorem dX12_cut_59 : decode cX12_cut 59 = .ok (.istore 6, 2) := by decide +kernel
theorem dX12_cut_61 : decode cX12_cut 61 = .ok (.iload 6, 2) := by decide +kernel
theorem dX12_cut_63 : decode cX12_cut 63 = .ok (.iconst 5, 1) := by decide +kernel
theorem dX12_cut_64 : decode cX12_cut 64 = .ok (.if_icmp .gt 47, 3) := by decide +kernel
theorem dX12_cut_67 : decode cX12_cut 67 = .ok (.iload 5, 2) := by decide +kernel
theorem dX12_cut_69 : decode cX12_cut 69 = .ok (.iload 4, 2) := by decide +kernel
theorem dX12_cut_71 : decode cX12_cut 71 = .ok (.iload 6, 2) := by decide +kernel
theorem dX12_cut_73 : decode cX12_cut 73 = .ok (.invokestatic 249, 3) := by decide +kernel
theorem dX12_cut_76 : decode cX12_cut 76 = .ok (.ifCond .eq 25, 3) := by decide +kernel
theorem dX12_cut_79 : decode cX12_cut 79 = .ok (.aload_n 0, 1) := by decide +kernel
theorem dX12_cut_80 : decode cX12_cut 80 = .ok (.getfield 7, 3) := by decide +kernel
theorem dX12_cut_83 : decode cX12_cut 83 = .ok (.sipush 141, 3) := by decide +kernel
theorem dX12_cut_86 : decode cX12_cut 86 = .ok (.iload 6, 2) := by decide +kernel
theorem dX12_cut_88 : decode cX12_cut 88 = .ok (.iadd, 1) := by decide +kernel
theorem dX12_cut_89 : decode cX12_cut 89 = .ok (.iaload, 1) := by decide +kernel
theorem dX12_cut_90 : decode cX12_cut 90 = .ok (.iload 4, 2) := by decide +kernel
theorem dX12_cut_92 : decode cX12_cut 92 = .ok (.iconst (-1), 1) := by decide +kernel
theorem dX12_cut_93 : decode cX12_cut 93 = .ok (.ixor, 1) := by decide +kernel
theorem dX12_cut_94 : decode cX12_cut 94 = .ok (.iand, 1) := by decide +kernel
theorem dX12_cut_95 : decode cX12_cut 95 = .ok (.invokestatic 305, 3) := by decide +kernel
theorem dX12_cut_98 : decode cX12_cut 98 = .ok (.goto 4, 3) := by decide +kernel
theorem dX12_cut_101 : decode cX12_cut 101 = .ok (.iconst 0, 1) := by decide +kernel
theorem dX12_cut_102 : decode cX12_cut 102 = .ok (.iadd, 1) := by decide +kernel
theorem dX12_cut_103 : decode cX12_cut 103 = .ok (.istore 5, 2) := by decide +kernel
theorem dX12_cut_105 : decode cX12_cut 105 = .ok (.iinc 6 1, 3) := by decide +kernel
theorem dX12_cut_108 : decode cX12_cut 108 = .ok (.goto (-47), 3) := by decide +kernel
theorem dX12_cut_111 : decode cX12_cut 111 = .ok (.iload 5, 2) := by decide +kernel
theorem dX12_cut_113 : decode cX12_cut 113 = .ok (.iload_n 3, 1) := by decide +kernel
theorem dX12_cut_114 : decode cX12_cut 114 = .ok (.if_icmp .ge 8, 3) := by decide +kernel
theorem dX12_cut_117 : decode cX12_cut 117 = .ok (.iload 5, 2) := by decide +kernel
theorem dX12_cut_119 : decode cX12_cut 119 = .ok (.goto 4, 3) := by decide +kernel
theorem dX12_cut_122 : decode cX12_cut 122 = .ok (.iload_n 3, 1) := by decide +kernel
theorem dX12_cut_123 : decode cX12_cut 123 = .ok (.istore_n 3, 1) := by decide +kernel
theorem dX12_cut_124 : decode cX12_cut 124 = .ok (.iinc 4 1, 3) := by decide +kernel
theorem dX12_cut_127 : decode cX12_cut 127 = .ok (.goto (-100), 3) := by decide +kernel
theorem dX12_cut_130 : decode cX12_cut 130 = .ok (.iload_n 3, 1) := by decide +kernel
theorem dX12_cut_131 : decode cX12_cut 131 = .ok (.ireturn, 1) := by decide +kernel
theorem dX12_partsNow_0 : decode cX12_partsNow 0 = .ok (.iconst 0, 1) := by decide +kernel
theorem dX12_partsNow_1 : decode cX12_partsNow 1 = .ok (.istore_n 1, 1) := by decide +kernel
theorem dX12_partsNow_2 : decode cX12_partsNow 2 = .ok (.iconst 0, 1) := by decide +kernel
theorem dX12_partsNow_3 : decode cX12_partsNow 3 = .ok (.istore_n 2, 1) := by decide +kernel
theorem dX12_partsNow_4 : decode cX12_partsNow 4 = .ok (.iconst 0, 1) := by decide +kernel
theorem dX12_partsNow_5 : decode cX12_partsNow 5 = .ok (.istore_n 3, 1) := by decide +kernel
theorem dX12_partsNow_6 : decode cX12_partsNow 6 = .ok (.iload_n 3, 1) := by decide +kernel
theorem dX12_partsNow_7 : decode cX12_partsNow 7 = .ok (.iconst 5, 1) := by decide +kernel
theorem dX12_partsNow_8 : decode cX12_partsNow 8 = .ok (.if_icmp .gt 56, 3) := by decide +kernel
theorem dX12_partsNow_11 : decode cX12_partsNow 11 = .ok (.iload_n 1, 1) := by decide +kernel
theorem dX12_partsNow_12 : decode cX12_partsNow 12 = .ok (.iload_n 3, 1) := by decide +kernel
theorem dX12_partsNow_13 : decode cX12_partsNow 13 = .ok (.invokestatic 249, 3) := by decide +kernel
theorem dX12_partsNow_16 : decode cX12_partsNow 16 = .ok (.ifCond .eq 6, 3) := by decide +kernel
theorem dX12_partsNow_19 : decode cX12_partsNow 19 = .ok (.goto 39, 3) := by decide +kernel
theorem dX12_partsNow_22 : decode cX12_partsNow 22 = .ok (.iinc 2 1, 3) := by decide +kernel
theorem dX12_partsNow_25 : decode cX12_partsNow 25 = .ok (.iconst 1, 1) := by decide +kernel
theorem dX12_partsNow_26 : decode cX12_partsNow 26 = .ok (.iload_n 3, 1) := by decide +kernel
theorem dX12_partsNow_27 : decode cX12_partsNow 27 = .ok (.ishl, 1) := by decide +kernel
theorem dX12_partsNow_28 : decode cX12_partsNow 28 = .ok (.istore 4, 2) := by decide +kernel
theorem dX12_partsNow_30 : decode cX12_partsNow 30 = .ok (.iconst 0, 1) := by decide +kernel
theorem dX12_partsNow_31 : decode cX12_partsNow 31 = .ok (.istore 5, 2) := by decide +kernel
theorem dX12_partsNow_33 : decode cX12_partsNow 33 = .ok (.iload 5, 2) := by decide +kernel
theorem dX12_partsNow_35 : decode cX12_partsNow 35 = .ok (.iconst 5, 1) := by decide +kernel
theorem dX12_partsNow_36 : decode cX12_partsNow 36 = .ok (.if_icmp .gt 17, 3) := by decide +kernel
theorem dX12_partsNow_39 : decode cX12_partsNow 39 = .ok (.aload_n 0, 1) := by decide +kernel
theorem dX12_partsNow_40 : decode cX12_partsNow 40 = .ok (.iload 4, 2) := by decide +kernel
theorem dX12_partsNow_42 : decode cX12_partsNow 42 = .ok (.invokevirtual 448, 3) := by decide +kernel
theorem dX12_partsNow_45 : decode cX12_partsNow 45 = .ok (.istore 4, 2) := by decide +kernel
theorem dX12_partsNow_47 : decode cX12_partsNow 47 = .ok (.iinc 5 1, 3) := by decide +kernel
theorem dX12_partsNow_50 : decode cX12_partsNow 50 = .ok (.goto (-17), 3) := by decide +kernel
theorem dX12_partsNow_53 : decode cX12_partsNow 53 = .ok (.iload_n 1, 1) := by decide +kernel
theorem dX12_partsNow_54 : decode cX12_partsNow 54 = .ok (.iload 4, 2) := by decide +kernel
theorem dX12_partsNow_56 : decode cX12_partsNow 56 = .ok (.ior, 1) := by decide +kernel
theorem dX12_partsNow_57 : decode cX12_partsNow 57 = .ok (.istore_n 1, 1) := by decide +kernel
theorem dX12_partsNow_58 : decode cX12_partsNow 58 = .ok (.iinc 3 1, 3) := by decide +kernel
theorem dX12_partsNow_61 : decode cX12_partsNow 61 = .ok (.goto (-55), 3) := by decide +kernel
theorem dX12_partsNow_64 : decode cX12_partsNow 64 = .ok (.iload_n 2, 1) := by decide +kernel
theorem dX12_partsNow_65 : decode cX12_partsNow 65 = .ok (.ireturn, 1) := by decide +kernel
theorem dX12_bridges_0 : decode cX12_bridges 0 = .ok (.aload_n 0, 1) := by decide +kernel
theorem dX12_bridges_1 : decode cX12_bridges 1 = .ok (.invokevirtual 451, 3) := by decide +kernel
theorem dX12_bridges_4 : decode cX12_bridges 4 = .ok (.istore_n 1, 1) := by decide +kernel
theorem dX12_bridges_5 : decode cX12_bridges 5 = .ok (.iconst 0, 1) := by decide +kernel
theorem dX12_bridges_6 : decode cX12_bridges 6 = .ok (.istore_n 2, 1) := by decide +kernel
theorem dX12_bridges_7 : decode cX12_bridges 7 = .ok (.iconst 0, 1) := by decide +kernel
theorem dX12_bridges_8 : decode cX12_bridges 8 = .ok (.istore_n 3, 1) := by decide +kernel
theorem dX12_bridges_9 : decode cX12_bridges 9 = .ok (.iload_n 3, 1) := by decide +kernel
theorem dX12_bridges_10 : decode cX12_bridges 10 = .ok (.iconst 5, 1) := by decide +kernel
theorem dX12_bridges_11 : decode cX12_bridges 11 = .ok (.if_icmp .gt 77, 3) := by decide +kernel
theorem dX12_bridges_14 : decode cX12_bridges 14 = .ok (.iload_n 3, 1) := by decide +kernel
theorem dX12_bridges_15 : decode cX12_bridges 15 = .ok (.iconst 1, 1) := by decide +kernel
theorem dX12_bridges_16 : decode cX12_bridges 16 = .ok (.iadd, 1) := by decide +kernel
theorem dX12_bridges_17 : decode cX12_bridges 17 = .ok (.istore 4, 2) := by decide +kernel
theorem dX12_bridges_19 : decode cX12_bridges 19 = .ok (.iload 4, 2) := by decide +kernel
theorem dX12_bridges_21 : decode cX12_bridges 21 = .ok (.iconst 5, 1) := by decide +kernel
theorem dX12_bridges_22 : decode cX12_bridges 22 = .ok (.if_icmp .gt 60, 3) := by decide +kernel
theorem dX12_bridges_25 : decode cX12_bridges 25 = .ok (.aload_n 0, 1) := by decide +kernel
theorem dX12_bridges_26 : decode cX12_bridges 26 = .ok (.getfield 7, 3) := by decide +kernel
theorem dX12_bridges_29 : decode cX12_bridges 29 = .ok (.sipush 141, 3) := by decide +kernel
theorem dX12_bridges_32 : decode cX12_bridges 32 = .ok (.iload_n 3, 1) := by decide +kernel
theorem dX12_bridges_33 : decode cX12_bridges 33 = .ok (.iadd, 1) := by decide +kernel
theorem dX12_bridges_34 : decode cX12_bridges 34 = .ok (.iaload, 1) := by decide +kernel
theorem dX12_bridges_35 : decode cX12_bridges 35 = .ok (.iload 4, 2) := by decide +kernel
theorem dX12_bridges_37 : decode cX12_bridges 37 = .ok (.invokestatic 249, 3) := by decide +kernel
theorem dX12_bridges_40 : decode cX12_bridges 40 = .ok (.ifCond .ne 6, 3) := by decide +kernel
theorem dX12_bridges_43 : decode cX12_bridges 43 = .ok (.goto 33, 3) := by decide +kernel
theorem dX12_bridges_46 : decode cX12_bridges 46 = .ok (.aload_n 0, 1) := by decide +kernel
theorem dX12_bridges_47 : decode cX12_bridges 47 = .ok (.iload_n 3, 1) := by decide +kernel
theorem dX12_bridges_48 : decode cX12_bridges 48 = .ok (.iload 4, 2) := by decide +kernel
theorem dX12_bridges_50 : decode cX12_bridges 50 = .ok (.invokevirtual 445, 3) := by decide +kernel
theorem dX12_bridges_53 : decode cX12_bridges 53 = .ok (.iload_n 2, 1) := by decide +kernel
theorem dX12_bridges_54 : decode cX12_bridges 54 = .ok (.aload_n 0, 1) := by decide +kernel
theorem dX12_bridges_55 : decode cX12_bridges 55 = .ok (.invokevirtual 451, 3) := by decide +kernel
theorem dX12_bridges_58 : decode cX12_bridges 58 = .ok (.iload_n 1, 1) := by decide +kernel
theorem dX12_bridges_59 : decode cX12_bridges 59 = .ok (.if_icmp .le 7, 3) := by decide +kernel
theorem dX12_bridges_62 : decode cX12_bridges 62 = .ok (.iconst 1, 1) := by decide +kernel
theorem dX12_bridges_63 : decode cX12_bridges 63 = .ok (.goto 4, 3) := by decide +kernel
theorem dX12_bridges_66 : decode cX12_bridges 66 = .ok (.iconst 0, 1) := by decide +kernel
theorem dX12_bridges_67 : decode cX12_bridges 67 = .ok (.iadd, 1) := by decide +kernel
theorem dX12_bridges_68 : decode cX12_bridges 68 = .ok (.istore_n 2, 1) := by decide +kernel
theorem dX12_bridges_69 : decode cX12_bridges 69 = .ok (.aload_n 0, 1) := by decide +kernel
theorem dX12_bridges_70 : decode cX12_bridges 70 = .ok (.iload_n 3, 1) := by decide +kernel
theorem dX12_bridges_71 : decode cX12_bridges 71 = .ok (.iload 4, 2) := by decide +kernel
theorem dX12_bridges_73 : decode cX12_bridges 73 = .ok (.invokevirtual 445, 3) := by decide +kernel
theorem dX12_bridges_76 : decode cX12_bridges 76 = .ok (.iinc 4 1, 3) := by decide +kernel
theorem dX12_bridges_79 : decode cX12_bridges 79 = .ok (.goto (-60), 3) := by decide +kernel
theorem dX12_bridges_82 : decode cX12_bridges 82 = .ok (.iinc 3 1, 3) := by decide +kernel
theorem dX12_bridges_85 : decode cX12_bridges 85 = .ok (.goto (-76), 3) := by decide +kernel
theorem dX12_bridges_88 : decode cX12_bridges 88 = .ok (.iload_n 2, 1) := by decide +kernel
theorem dX12_bridges_89 : decode cX12_bridges 89 = .ok (.ireturn, 1) := by decide +kernel
theorem dX12_odds_0 : decode cX12_odds 0 = .ok (.iload_n 1, 1) := by decide +kernel
theorem dX12_odds_1 : decode cX12_odds 1 = .ok (.iconst 0, 1) := by decide +kernel
theorem dX12_odds_2 : decode cX12_odds 2 = .ok (.iconst 5, 1) := by decide +kernel
theorem dX12_odds_3 : decode cX12_odds 3 = .ok (.invokestatic 60, 3) := by decide +kernel
theorem dX12_odds_6 : decode cX12_odds 6 = .ok (.ifCond .eq 13, 3) := by decide +kernel
theorem dX12_odds_9 : decode cX12_odds 9 = .ok (.iload_n 2, 1) := by decide +kernel
theorem dX12_odds_10 : decode cX12_odds 10 = .ok (.iconst 0, 1) := by decide +kernel
theorem dX12_odds_11 : decode cX12_odds 11 = .ok (.bipush 10, 2) := by decide +kernel
theorem dX12_odds_13 : decode cX12_odds 13 = .ok (.invokestatic 60, 3) := by decide +kernel
theorem dX12_odds_16 : decode cX12_odds 16 = .ok (.ifCond .ne 5, 3) := by decide +kernel
theorem dX12_odds_19 : decode cX12_odds 19 = .ok (.iconst 0, 1) := by decide +kernel
theorem dX12_odds_20 : decode cX12_odds 20 = .ok (.ireturn, 1) := by decide +kernel
theorem dX12_odds_21 : decode cX12_odds 21 = .ok (.aload_n 0, 1) := by decide +kernel
theorem dX12_odds_22 : decode cX12_odds 22 = .ok (.getfield 7, 3) := by decide +kernel
theorem dX12_odds_25 : decode cX12_odds 25 = .ok (.sipush 147, 3) := by decide +kernel
theorem dX12_odds_28 : decode cX12_odds 28 = .ok (.iload_n 1, 1) := by decide +kernel
theorem dX12_odds_29 : decode cX12_odds 29 = .ok (.iadd, 1) := by decide +kernel
theorem dX12_odds_30 : decode cX12_odds 30 = .ok (.iload_n 2, 1) := by decide +kernel
theorem dX12_odds_31 : decode cX12_odds 31 = .ok (.iastore, 1) := by decide +kernel
theorem dX12_odds_32 : decode cX12_odds 32 = .ok (.iconst 1, 1) := by decide +kernel
theorem dX12_odds_33 : decode cX12_odds 33 = .ok (.ireturn, 1) := by decide +kernel
theorem dX12_isTen_0 : decode cX12_isTen 0 = .ok (.iconst 0, 1) := by decide +kernel
theorem dX12_isTen_1 : decode cX12_isTen 1 = .ok (.istore_n 1, 1) := by decide +kernel
theorem dX12_isTen_2 : decode cX12_isTen 2 = .ok (.iconst 0, 1) := by decide +kernel
theorem dX12_isTen_3 : decode cX12_isTen 3 = .ok (.istore_n 2, 1) := by decide +kernel
theorem dX12_isTen_4 : decode cX12_isTen 4 = .ok (.iload_n 2, 1) := by decide +kernel
theorem dX12_isTen_5 : decode cX12_isTen 5 = .ok (.bipush 6, 2) := by decide +kernel
theorem dX12_isTen_7 : decode cX12_isTen 7 = .ok (.if_icmp .ge 22, 3) := by decide +kernel
theorem dX12_isTen_10 : decode cX12_isTen 10 = .ok (.iload_n 1, 1) := by decide +kernel
theorem dX12_isTen_11 : decode cX12_isTen 11 = .ok (.aload_n 0, 1) := by decide +kernel
theorem dX12_isTen_12 : decode cX12_isTen 12 = .ok (.getfield 7, 3) := by decide +kernel
theorem dX12_isTen_15 : decode cX12_isTen 15 = .ok (.sipush 147, 3) := by decide +kernel
theorem dX12_isTen_18 : decode cX12_isTen 18 = .ok (.iload_n 2, 1) := by decide +kernel
theorem dX12_isTen_19 : decode cX12_isTen 19 = .ok (.iadd, 1) := by decide +kernel
theorem dX12_isTen_20 : decode cX12_isTen 20 = .ok (.iaload, 1) := by decide +kernel
theorem dX12_isTen_21 : decode cX12_isTen 21 = .ok (.iadd, 1) := by decide +kernel
theorem dX12_isTen_22 : decode cX12_isTen 22 = .ok (.istore_n 1, 1) := by decide +kernel
theorem dX12_isTen_23 : decode cX12_isTen 23 = .ok (.iinc 2 1, 3) := by decide +kernel
theorem dX12_isTen_26 : decode cX12_isTen 26 = .ok (.goto (-22), 3) := by decide +kernel
theorem dX12_isTen_29 : decode cX12_isTen 29 = .ok (.iload_n 1, 1) := by decide +kernel
theorem dX12_isTen_30 : decode cX12_isTen 30 = .ok (.bipush 10, 2) := by decide +kernel
theorem dX12_isTen_32 : decode cX12_isTen 32 = .ok (.if_icmp .ne 7, 3) := by decide +kernel
theorem dX12_isTen_35 : decode cX12_isTen 35 = .ok (.iconst 1, 1) := by decide +kernel
theorem dX12_isTen_36 : decode cX12_isTen 36 = .ok (.goto 4, 3) := by decide +kernel
theorem dX12_isTen_39 : decode cX12_isTen 39 = .ok (.iconst 0, 1) := by decide +kernel
theorem dX12_isTen_40 : decode cX12_isTen 40 = .ok (.ireturn, 1) := by decide +kernel
theorem dX12_tens_0 : decode cX12_tens 0 = .ok (.lconst 1, 1) := by decide +kernel
theorem dX12_tens_1 : decode cX12_tens 1 = .ok (.lstore_n 1, 1) := by decide +kernel
theorem dX12_tens_2 : decode cX12_tens 2 = .ok (.iconst 0, 1) := by decide +kernel
theorem dX12_tens_3 : decode cX12_tens 3 = .ok (.istore_n 3, 1) := by decide +kernel
theorem dX12_tens_4 : decode cX12_tens 4 = .ok (.iload_n 3, 1) := by decide +kernel
theorem dX12_tens_5 : decode cX12_tens 5 = .ok (.iload_n 0, 1) := by decide +kernel
theorem dX12_tens_6 : decode cX12_tens 6 = .ok (.if_icmp .ge 15, 3) := by decide +kernel
theorem dX12_tens_9 : decode cX12_tens 9 = .ok (.lload_n 1, 1) := by decide +kernel
theorem dX12_tens_10 : decode cX12_tens 10 = .ok (.ldc2_w 454, 3) := by decide +kernel
theorem dX12_tens_13 : decode cX12_tens 13 = .ok (.lmul, 1) := by decide +kernel
theorem dX12_tens_14 : decode cX12_tens 14 = .ok (.lstore_n 1, 1) := by decide +kernel
theorem dX12_tens_15 : decode cX12_tens 15 = .ok (.iinc 3 1, 3) := by decide +kernel
theorem dX12_tens_18 : decode cX12_tens 18 = .ok (.goto (-14), 3) := by decide +kernel
theorem dX12_tens_21 : decode cX12_tens 21 = .ok (.lload_n 1, 1) := by decide +kernel
theorem dX12_tens_22 : decode cX12_tens 22 = .ok (.lreturn, 1) := by decide +kernel
theorem dX12_meanOf_0 : decode cX12_meanOf 0 = .ok (.lconst 0, 1) := by decide +kernel
theorem dX12_meanOf_1 : decode cX12_meanOf 1 = .ok (.lstore_n 2, 1) := by decide +kernel
theorem dX12_meanOf_2 : decode cX12_meanOf 2 = .ok (.iconst 0, 1) := by decide +kernel
theorem dX12_meanOf_3 : decode cX12_meanOf 3 = .ok (.istore 4, 2) := by decide +kernel
theorem dX12_meanOf_5 : decode cX12_meanOf 5 = .ok (.iload 4, 2) := by decide +kernel
theorem dX12_meanOf_7 : decode cX12_meanOf 7 = .ok (.iload_n 1, 1) := by decide +kernel
theorem dX12_meanOf_8 : decode cX12_meanOf 8 = .ok (.if_icmp .ge 77, 3) := by decide +kernel
theorem dX12_meanOf_11 : decode cX12_meanOf 11 = .ok (.lconst 0, 1) := by decide +kernel
theorem dX12_meanOf_12 : decode cX12_meanOf 12 = .ok (.lstore 5, 2) := by decide +kernel
theorem dX12_meanOf_14 : decode cX12_meanOf 14 = .ok (.iconst 0, 1) := by decide +kernel
theorem dX12_meanOf_15 : decode cX12_meanOf 15 = .ok (.istore 7, 2) := by decide +kernel
theorem dX12_meanOf_17 : decode cX12_meanOf 17 = .ok (.iload 7, 2) := by decide +kernel
theorem dX12_meanOf_19 : decode cX12_meanOf 19 = .ok (.bipush 6, 2) := by decide +kernel
theorem dX12_meanOf_21 : decode cX12_meanOf 21 = .ok (.if_icmp .ge 55, 3) := by decide +kernel
theorem dX12_meanOf_24 : decode cX12_meanOf 24 = .ok (.ldc2_w 454, 3) := by decide +kernel
theorem dX12_meanOf_27 : decode cX12_meanOf 27 = .ok (.iload 7, 2) := by decide +kernel
theorem dX12_meanOf_29 : decode cX12_meanOf 29 = .ok (.i2l, 1) := by decide +kernel
theorem dX12_meanOf_30 : decode cX12_meanOf 30 = .ok (.lmul, 1) := by decide +kernel
theorem dX12_meanOf_31 : decode cX12_meanOf 31 = .ok (.iload 4, 2) := by decide +kernel
theorem dX12_meanOf_33 : decode cX12_meanOf 33 = .ok (.invokestatic 456, 3) := by decide +kernel
theorem dX12_meanOf_36 : decode cX12_meanOf 36 = .ok (.lmul, 1) := by decide +kernel
theorem dX12_meanOf_37 : decode cX12_meanOf 37 = .ok (.lstore 8, 2) := by decide +kernel
theorem dX12_meanOf_39 : decode cX12_meanOf 39 = .ok (.lload 5, 2) := by decide +kernel
theorem dX12_meanOf_41 : decode cX12_meanOf 41 = .ok (.aload_n 0, 1) := by decide +kernel
theorem dX12_meanOf_42 : decode cX12_meanOf 42 = .ok (.getfield 7, 3) := by decide +kernel
theorem dX12_meanOf_45 : decode cX12_meanOf 45 = .ok (.sipush 147, 3) := by decide +kernel
theorem dX12_meanOf_48 : decode cX12_meanOf 48 = .ok (.iload 7, 2) := by decide +kernel
theorem dX12_meanOf_50 : decode cX12_meanOf 50 = .ok (.iadd, 1) := by decide +kernel
theorem dX12_meanOf_51 : decode cX12_meanOf 51 = .ok (.iaload, 1) := by decide +kernel
theorem dX12_meanOf_52 : decode cX12_meanOf 52 = .ok (.i2l, 1) := by decide +kernel
theorem dX12_meanOf_53 : decode cX12_meanOf 53 = .ok (.lload 8, 2) := by decide +kernel
theorem dX12_meanOf_55 : decode cX12_meanOf 55 = .ok (.lload_n 2, 1) := by decide +kernel
theorem dX12_meanOf_56 : decode cX12_meanOf 56 = .ok (.lcmp, 1) := by decide +kernel
theorem dX12_meanOf_57 : decode cX12_meanOf 57 = .ok (.ifCond .le 8, 3) := by decide +kernel
theorem dX12_meanOf_60 : decode cX12_meanOf 60 = .ok (.lload 8, 2) := by decide +kernel
theorem dX12_meanOf_62 : decode cX12_meanOf 62 = .ok (.goto 4, 3) := by decide +kernel
theorem dX12_meanOf_65 : decode cX12_meanOf 65 = .ok (.lload_n 2, 1) := by decide +kernel
theorem dX12_meanOf_66 : decode cX12_meanOf 66 = .ok (.lmul, 1) := by decide +kernel
theorem dX12_meanOf_67 : decode cX12_meanOf 67 = .ok (.ladd, 1) := by decide +kernel
theorem dX12_meanOf_68 : decode cX12_meanOf 68 = .ok (.lstore 5, 2) := by decide +kernel
theorem dX12_meanOf_70 : decode cX12_meanOf 70 = .ok (.iinc 7 1, 3) := by decide +kernel
theorem dX12_meanOf_73 : decode cX12_meanOf 73 = .ok (.goto (-56), 3) := by decide +kernel
theorem dX12_meanOf_76 : decode cX12_meanOf 76 = .ok (.lload 5, 2) := by decide +kernel
theorem dX12_meanOf_78 : decode cX12_meanOf 78 = .ok (.lstore_n 2, 1) := by decide +kernel
theorem dX12_meanOf_79 : decode cX12_meanOf 79 = .ok (.iinc 4 1, 3) := by decide +kernel
theorem dX12_meanOf_82 : decode cX12_meanOf 82 = .ok (.goto (-77), 3) := by decide +kernel
theorem dX12_meanOf_85 : decode cX12_meanOf 85 = .ok (.lload_n 2, 1) := by decide +kernel
theorem dX12_meanOf_86 : decode cX12_meanOf 86 = .ok (.lreturn, 1) := by decide +kernel
theorem dX12_divisor_0 : decode cX12_divisor 0 = .ok (.lload_n 0, 1) := by decide +kernel
theorem dX12_divisor_1 : decode cX12_divisor 1 = .ok (.lstore 4, 2) := by decide +kernel
theorem dX12_divisor_3 : decode cX12_divisor 3 = .ok (.lload_n 2, 1) := by decide +kernel
theorem dX12_divisor_4 : decode cX12_divisor 4 = .ok (.lstore 6, 2) := by decide +kernel
theorem dX12_divisor_6 : decode cX12_divisor 6 = .ok (.lload 6, 2) := by decide +kernel
theorem dX12_divisor_8 : decode cX12_divisor 8 = .ok (.lconst 0, 1) := by decide +kernel
theorem dX12_divisor_9 : decode cX12_divisor 9 = .ok (.lcmp, 1) := by decide +kernel
theorem dX12_divisor_10 : decode cX12_divisor 10 = .ok (.ifCond .eq 21, 3) := by decide +kernel
theorem dX12_divisor_13 : decode cX12_divisor 13 = .ok (.lload 4, 2) := by decide +kernel
theorem dX12_divisor_15 : decode cX12_divisor 15 = .ok (.lload 6, 2) := by decide +kernel
theorem dX12_divisor_17 : decode cX12_divisor 17 = .ok (.lrem, 1) := by decide +kernel
theorem dX12_divisor_18 : decode cX12_divisor 18 = .ok (.lstore 8, 2) := by decide +kernel
theorem dX12_divisor_20 : decode cX12_divisor 20 = .ok (.lload 6, 2) := by decide +kernel
theorem dX12_divisor_22 : decode cX12_divisor 22 = .ok (.lstore 4, 2) := by decide +kernel
theorem dX12_divisor_24 : decode cX12_divisor 24 = .ok (.lload 8, 2) := by decide +kernel
theorem dX12_divisor_26 : decode cX12_divisor 26 = .ok (.lstore 6, 2) := by decide +kernel
theorem dX12_divisor_28 : decode cX12_divisor 28 = .ok (.goto (-22), 3) := by decide +kernel
theorem dX12_divisor_31 : decode cX12_divisor 31 = .ok (.lload 4, 2) := by decide +kernel
theorem dX12_divisor_33 : decode cX12_divisor 33 = .ok (.lreturn, 1) := by decide +kernel
theorem dX12_leave_0 : decode cX12_leave 0 = .ok (.iload_n 1, 1) := by decide +kernel
theorem dX12_leave_1 : decode cX12_leave 1 = .ok (.iconst 0, 1) := by decide +kernel
theorem dX12_leave_2 : decode cX12_leave 2 = .ok (.bipush 6, 2) := by decide +kernel
theorem dX12_leave_4 : decode cX12_leave 4 = .ok (.invokestatic 60, 3) := by decide +kernel
theorem dX12_leave_7 : decode cX12_leave 7 = .ok (.ifCond .eq 10, 3) := by decide +kernel
theorem dX12_leave_10 : decode cX12_leave 10 = .ok (.aload_n 0, 1) := by decide +kernel
theorem dX12_leave_11 : decode cX12_leave 11 = .ok (.invokevirtual 460, 3) := by decide +kernel
theorem dX12_leave_14 : decode cX12_leave 14 = .ok (.ifCond .ne 7, 3) := by decide +kernel
theorem dX12_leave_17 : decode cX12_leave 17 = .ok (.ldc2_w 463, 3) := by decide +kernel
theorem dX12_leave_20 : decode cX12_leave 20 = .ok (.lreturn, 1) := by decide +kernel
theorem dX12_leave_21 : decode cX12_leave 21 = .ok (.aload_n 0, 1) := by decide +kernel
theorem dX12_leave_22 : decode cX12_leave 22 = .ok (.iload_n 1, 1) := by decide +kernel
theorem dX12_leave_23 : decode cX12_leave 23 = .ok (.invokevirtual 465, 3) := by decide +kernel
theorem dX12_leave_26 : decode cX12_leave 26 = .ok (.lstore_n 3, 1) := by decide +kernel
theorem dX12_leave_27 : decode cX12_leave 27 = .ok (.iload_n 2, 1) := by decide +kernel
theorem dX12_leave_28 : decode cX12_leave 28 = .ok (.ifCond .eq 10, 3) := by decide +kernel
theorem dX12_leave_31 : decode cX12_leave 31 = .ok (.iload_n 1, 1) := by decide +kernel
theorem dX12_leave_32 : decode cX12_leave 32 = .ok (.invokestatic 456, 3) := by decide +kernel
theorem dX12_leave_35 : decode cX12_leave 35 = .ok (.goto 4, 3) := by decide +kernel
theorem dX12_leave_38 : decode cX12_leave 38 = .ok (.lload_n 3, 1) := by decide +kernel
theorem dX12_leave_39 : decode cX12_leave 39 = .ok (.lload_n 3, 1) := by decide +kernel
theorem dX12_leave_40 : decode cX12_leave 40 = .ok (.iload_n 1, 1) := by decide +kernel
theorem dX12_leave_41 : decode cX12_leave 41 = .ok (.invokestatic 456, 3) := by decide +kernel
theorem dX12_leave_44 : decode cX12_leave 44 = .ok (.invokestatic 468, 3) := by decide +kernel
theorem dX12_leave_47 : decode cX12_leave 47 = .ok (.ldiv, 1) := by decide +kernel
theorem dX12_leave_48 : decode cX12_leave 48 = .ok (.lreturn, 1) := by decide +kernel
theorem dX12_takes_0 : decode cX12_takes 0 = .ok (.iload_n 1, 1) := by decide +kernel
theorem dX12_takes_1 : decode cX12_takes 1 = .ok (.iconst 0, 1) := by decide +kernel
theorem dX12_takes_2 : decode cX12_takes 2 = .ok (.bipush 6, 2) := by decide +kernel
theorem dX12_takes_4 : decode cX12_takes 4 = .ok (.invokestatic 60, 3) := by decide +kernel
theorem dX12_takes_7 : decode cX12_takes 7 = .ok (.ifCond .eq 19, 3) := by decide +kernel
theorem dX12_takes_10 : decode cX12_takes 10 = .ok (.iload_n 2, 1) := by decide +kernel
theorem dX12_takes_11 : decode cX12_takes 11 = .ok (.iconst 0, 1) := by decide +kernel
theorem dX12_takes_12 : decode cX12_takes 12 = .ok (.iconst 5, 1) := by decide +kernel
theorem dX12_takes_13 : decode cX12_takes 13 = .ok (.invokestatic 60, 3) := by decide +kernel
theorem dX12_takes_16 : decode cX12_takes 16 = .ok (.ifCond .eq 10, 3) := by decide +kernel
theorem dX12_takes_19 : decode cX12_takes 19 = .ok (.aload_n 0, 1) := by decide +kernel
theorem dX12_takes_20 : decode cX12_takes 20 = .ok (.invokevirtual 460, 3) := by decide +kernel
theorem dX12_takes_23 : decode cX12_takes 23 = .ok (.ifCond .ne 5, 3) := by decide +kernel
theorem dX12_takes_26 : decode cX12_takes 26 = .ok (.iconst (-1), 1) := by decide +kernel
theorem dX12_takes_27 : decode cX12_takes 27 = .ok (.ireturn, 1) := by decide +kernel
theorem dX12_takes_28 : decode cX12_takes 28 = .ok (.ldc2_w 454, 3) := by decide +kernel
theorem dX12_takes_31 : decode cX12_takes 31 = .ok (.iload_n 2, 1) := by decide +kernel
theorem dX12_takes_32 : decode cX12_takes 32 = .ok (.i2l, 1) := by decide +kernel
theorem dX12_takes_33 : decode cX12_takes 33 = .ok (.lmul, 1) := by decide +kernel
theorem dX12_takes_34 : decode cX12_takes 34 = .ok (.iload_n 1, 1) := by decide +kernel
theorem dX12_takes_35 : decode cX12_takes 35 = .ok (.invokestatic 456, 3) := by decide +kernel
theorem dX12_takes_38 : decode cX12_takes 38 = .ok (.lmul, 1) := by decide +kernel
theorem dX12_takes_39 : decode cX12_takes 39 = .ok (.aload_n 0, 1) := by decide +kernel
theorem dX12_takes_40 : decode cX12_takes 40 = .ok (.iload_n 1, 1) := by decide +kernel
theorem dX12_takes_41 : decode cX12_takes 41 = .ok (.invokevirtual 465, 3) := by decide +kernel
theorem dX12_takes_44 : decode cX12_takes 44 = .ok (.lcmp, 1) := by decide +kernel
theorem dX12_takes_45 : decode cX12_takes 45 = .ok (.ifCond .lt 7, 3) := by decide +kernel
theorem dX12_takes_48 : decode cX12_takes 48 = .ok (.iconst 1, 1) := by decide +kernel
theorem dX12_takes_49 : decode cX12_takes 49 = .ok (.goto 4, 3) := by decide +kernel
theorem dX12_takes_52 : decode cX12_takes 52 = .ok (.iconst 0, 1) := by decide +kernel
theorem dX12_takes_53 : decode cX12_takes 53 = .ok (.ireturn, 1) := by decide +kernel
theorem dX12_couldBurn_0 : decode cX12_couldBurn 0 = .ok (.iconst 0, 1) := by decide +kernel
theorem dX12_couldBurn_1 : decode cX12_couldBurn 1 = .ok (.istore_n 1, 1) := by decide +kernel
theorem dX12_couldBurn_2 : decode cX12_couldBurn 2 = .ok (.iconst 0, 1) := by decide +kernel
theorem dX12_couldBurn_3 : decode cX12_couldBurn 3 = .ok (.istore_n 2, 1) := by decide +kernel
theorem dX12_couldBurn_4 : decode cX12_couldBurn 4 = .ok (.iload_n 2, 1) := by decide +kernel
theorem dX12_couldBurn_5 : decode cX12_couldBurn 5 = .ok (.aload_n 0, 1) := by decide +kernel
theorem dX12_couldBurn_6 : decode cX12_couldBurn 6 = .ok (.getfield 7, 3) := by decide +kernel
theorem dX12_couldBurn_9 : decode cX12_couldBurn 9 = .ok (.iconst 0, 1) := by decide +kernel
theorem dX12_couldBurn_10 : decode cX12_couldBurn 10 = .ok (.iaload, 1) := by decide +kernel
theorem dX12_couldBurn_11 : decode cX12_couldBurn 11 = .ok (.if_icmp .ge 38, 3) := by decide +kernel
theorem dX12_couldBurn_14 : decode cX12_couldBurn 14 = .ok (.iload_n 1, 1) := by decide +kernel
theorem dX12_couldBurn_15 : decode cX12_couldBurn 15 = .ok (.aload_n 0, 1) := by decide +kernel
theorem dX12_couldBurn_16 : decode cX12_couldBurn 16 = .ok (.iload_n 2, 1) := by decide +kernel
theorem dX12_couldBurn_17 : decode cX12_couldBurn 17 = .ok (.iconst 1, 1) := by decide +kernel
theorem dX12_couldBurn_18 : decode cX12_couldBurn 18 = .ok (.invokevirtual 68, 3) := by decide +kernel
theorem dX12_couldBurn_21 : decode cX12_couldBurn 21 = .ok (.ifCond .eq 13, 3) := by decide +kernel
theorem dX12_couldBurn_24 : decode cX12_couldBurn 24 = .ok (.aload_n 0, 1) := by decide +kernel
theorem dX12_couldBurn_25 : decode cX12_couldBurn 25 = .ok (.iload_n 2, 1) := by decide +kernel
theorem dX12_couldBurn_26 : decode cX12_couldBurn 26 = .ok (.iconst 1, 1) := by decide +kernel
theorem dX12_couldBurn_27 : decode cX12_couldBurn 27 = .ok (.invokevirtual 68, 3) := by decide +kernel
theorem dX12_couldBurn_30 : decode cX12_couldBurn 30 = .ok (.iconst 2, 1) := by decide +kernel
theorem dX12_couldBurn_31 : decode cX12_couldBurn 31 = .ok (.if_icmp .ne 9, 3) := by decide +kernel
theorem dX12_couldBurn_34 : decode cX12_couldBurn 34 = .ok (.iconst 1, 1) := by decide +kernel
theorem dX12_couldBurn_35 : decode cX12_couldBurn 35 = .ok (.iload_n 2, 1) := by decide +kernel
theorem dX12_couldBurn_36 : decode cX12_couldBurn 36 = .ok (.ishl, 1) := by decide +kernel
theorem dX12_couldBurn_37 : decode cX12_couldBurn 37 = .ok (.goto 4, 3) := by decide +kernel
theorem dX12_couldBurn_40 : decode cX12_couldBurn 40 = .ok (.iconst 0, 1) := by decide +kernel
theorem dX12_couldBurn_41 : decode cX12_couldBurn 41 = .ok (.ior, 1) := by decide +kernel
theorem dX12_couldBurn_42 : decode cX12_couldBurn 42 = .ok (.istore_n 1, 1) := by decide +kernel
theorem dX12_couldBurn_43 : decode cX12_couldBurn 43 = .ok (.iinc 2 1, 3) := by decide +kernel
theorem dX12_couldBurn_46 : decode cX12_couldBurn 46 = .ok (.goto (-42), 3) := by decide +kernel
theorem dX12_couldBurn_49 : decode cX12_couldBurn 49 = .ok (.iload_n 1, 1) := by decide +kernel
theorem dX12_couldBurn_50 : decode cX12_couldBurn 50 = .ok (.ireturn, 1) := by decide +kernel
theorem dX12_weightOf_0 : decode cX12_weightOf 0 = .ok (.iconst 0, 1) := by decide +kernel
theorem dX12_weightOf_1 : decode cX12_weightOf 1 = .ok (.istore_n 2, 1) := by decide +kernel
theorem dX12_weightOf_2 : decode cX12_weightOf 2 = .ok (.iconst 0, 1) := by decide +kernel
theorem dX12_weightOf_3 : decode cX12_weightOf 3 = .ok (.istore_n 3, 1) := by decide +kernel
theorem dX12_weightOf_4 : decode cX12_weightOf 4 = .ok (.iload_n 3, 1) := by decide +kernel
theorem dX12_weightOf_5 : decode cX12_weightOf 5 = .ok (.aload_n 0, 1) := by decide +kernel
theorem dX12_weightOf_6 : decode cX12_weightOf 6 = .ok (.getfield 7, 3) := by decide +kernel
theorem dX12_weightOf_9 : decode cX12_weightOf 9 = .ok (.iconst 0, 1) := by decide +kernel
theorem dX12_weightOf_10 : decode cX12_weightOf 10 = .ok (.iaload, 1) := by decide +kernel
theorem dX12_weightOf_11 : decode cX12_weightOf 11 = .ok (.if_icmp .ge 30, 3) := by decide +kernel
theorem dX12_weightOf_14 : decode cX12_weightOf 14 = .ok (.iload_n 2, 1) := by decide +kernel
theorem dX12_weightOf_15 : decode cX12_weightOf 15 = .ok (.iload_n 1, 1) := by decide +kernel
theorem dX12_weightOf_16 : decode cX12_weightOf 16 = .ok (.iload_n 3, 1) := by decide +kernel
theorem dX12_weightOf_17 : decode cX12_weightOf 17 = .ok (.invokestatic 249, 3) := by decide +kernel
theorem dX12_weightOf_20 : decode cX12_weightOf 20 = .ok (.ifCond .eq 12, 3) := by decide +kernel
theorem dX12_weightOf_23 : decode cX12_weightOf 23 = .ok (.aload_n 0, 1) := by decide +kernel
theorem dX12_weightOf_24 : decode cX12_weightOf 24 = .ok (.iload_n 3, 1) := by decide +kernel
theorem dX12_weightOf_25 : decode cX12_weightOf 25 = .ok (.iconst 3, 1) := by decide +kernel
theorem dX12_weightOf_26 : decode cX12_weightOf 26 = .ok (.invokevirtual 68, 3) := by decide +kernel
theorem dX12_weightOf_29 : decode cX12_weightOf 29 = .ok (.goto 4, 3) := by decide +kernel
theorem dX12_weightOf_32 : decode cX12_weightOf 32 = .ok (.iconst 0, 1) := by decide +kernel
theorem dX12_weightOf_33 : decode cX12_weightOf 33 = .ok (.iadd, 1) := by decide +kernel
theorem dX12_weightOf_34 : decode cX12_weightOf 34 = .ok (.istore_n 2, 1) := by decide +kernel
theorem dX12_weightOf_35 : decode cX12_weightOf 35 = .ok (.iinc 3 1, 3) := by decide +kernel
theorem dX12_weightOf_38 : decode cX12_weightOf 38 = .ok (.goto (-34), 3) := by decide +kernel
theorem dX12_weightOf_41 : decode cX12_weightOf 41 = .ok (.iload_n 2, 1) := by decide +kernel
theorem dX12_weightOf_42 : decode cX12_weightOf 42 = .ok (.ireturn, 1) := by decide +kernel
theorem dX12_layAsh_0 : decode cX12_layAsh 0 = .ok (.aload_n 0, 1) := by decide +kernel
theorem dX12_layAsh_1 : decode cX12_layAsh 1 = .ok (.invokevirtual 471, 3) := by decide +kernel
theorem dX12_layAsh_4 : decode cX12_layAsh 4 = .ok (.istore_n 3, 1) := by decide +kernel
theorem dX12_layAsh_5 : decode cX12_layAsh 5 = .ok (.aload_n 0, 1) := by decide +kernel
theorem dX12_layAsh_6 : decode cX12_layAsh 6 = .ok (.iconst 0, 1) := by decide +kernel
theorem dX12_layAsh_7 : decode cX12_layAsh 7 = .ok (.putfield 474, 3) := by decide +kernel
theorem dX12_layAsh_10 : decode cX12_layAsh 10 = .ok (.aload_n 0, 1) := by decide +kernel
theorem dX12_layAsh_11 : decode cX12_layAsh 11 = .ok (.iload_n 3, 1) := by decide +kernel
theorem dX12_layAsh_12 : decode cX12_layAsh 12 = .ok (.putfield 477, 3) := by decide +kernel
theorem dX12_layAsh_15 : decode cX12_layAsh 15 = .ok (.aload_n 0, 1) := by decide +kernel
theorem dX12_layAsh_16 : decode cX12_layAsh 16 = .ok (.iload_n 3, 1) := by decide +kernel
theorem dX12_layAsh_17 : decode cX12_layAsh 17 = .ok (.putfield 480, 3) := by decide +kernel
theorem dX12_layAsh_20 : decode cX12_layAsh 20 = .ok (.iconst 0, 1) := by decide +kernel
theorem dX12_layAsh_21 : decode cX12_layAsh 21 = .ok (.istore 4, 2) := by decide +kernel
theorem dX12_layAsh_23 : decode cX12_layAsh 23 = .ok (.iload 4, 2) := by decide +kernel
theorem dX12_layAsh_25 : decode cX12_layAsh 25 = .ok (.iload_n 3, 1) := by decide +kernel
theorem dX12_layAsh_26 : decode cX12_layAsh 26 = .ok (.if_icmp .gt 74, 3) := by decide +kernel
theorem dX12_layAsh_29 : decode cX12_layAsh 29 = .ok (.iload 4, 2) := by decide +kernel
theorem dX12_layAsh_31 : decode cX12_layAsh 31 = .ok (.iload_n 3, 1) := by decide +kernel
theorem dX12_layAsh_32 : decode cX12_layAsh 32 = .ok (.iconst (-1), 1) := by decide +kernel
theorem dX12_layAsh_33 : decode cX12_layAsh 33 = .ok (.ixor, 1) := by decide +kernel
theorem dX12_layAsh_34 : decode cX12_layAsh 34 = .ok (.iand, 1) := by decide +kernel
theorem dX12_layAsh_35 : decode cX12_layAsh 35 = .ok (.ifCond .ne 59, 3) := by decide +kernel
theorem dX12_layAsh_38 : decode cX12_layAsh 38 = .ok (.iload 4, 2) := by decide +kernel
theorem dX12_layAsh_40 : decode cX12_layAsh 40 = .ok (.invokestatic 305, 3) := by decide +kernel
theorem dX12_layAsh_43 : decode cX12_layAsh 43 = .ok (.iload_n 2, 1) := by decide +kernel
theorem dX12_layAsh_44 : decode cX12_layAsh 44 = .ok (.if_icmp .ne 50, 3) := by decide +kernel
theorem dX12_layAsh_47 : decode cX12_layAsh 47 = .ok (.aload_n 0, 1) := by decide +kernel
theorem dX12_layAsh_48 : decode cX12_layAsh 48 = .ok (.iload 4, 2) := by decide +kernel
theorem dX12_layAsh_50 : decode cX12_layAsh 50 = .ok (.invokevirtual 483, 3) := by decide +kernel
theorem dX12_layAsh_53 : decode cX12_layAsh 53 = .ok (.iload_n 1, 1) := by decide +kernel
theorem dX12_layAsh_54 : decode cX12_layAsh 54 = .ok (.if_icmp .eq 6, 3) := by decide +kernel
theorem dX12_layAsh_57 : decode cX12_layAsh 57 = .ok (.goto 37, 3) := by decide +kernel
theorem dX12_layAsh_60 : decode cX12_layAsh 60 = .ok (.aload_n 0, 1) := by decide +kernel
theorem dX12_layAsh_61 : decode cX12_layAsh 61 = .ok (.dup, 1) := by decide +kernel
theorem dX12_layAsh_62 : decode cX12_layAsh 62 = .ok (.getfield 474, 3) := by decide +kernel
theorem dX12_layAsh_65 : decode cX12_layAsh 65 = .ok (.iconst 1, 1) := by decide +kernel
theorem dX12_layAsh_66 : decode cX12_layAsh 66 = .ok (.iadd, 1) := by decide +kernel
theorem dX12_layAsh_67 : decode cX12_layAsh 67 = .ok (.putfield 474, 3) := by decide +kernel
theorem dX12_layAsh_70 : decode cX12_layAsh 70 = .ok (.aload_n 0, 1) := by decide +kernel
theorem dX12_layAsh_71 : decode cX12_layAsh 71 = .ok (.dup, 1) := by decide +kernel
theorem dX12_layAsh_72 : decode cX12_layAsh 72 = .ok (.getfield 477, 3) := by decide +kernel
theorem dX12_layAsh_75 : decode cX12_layAsh 75 = .ok (.iload 4, 2) := by decide +kernel
theorem dX12_layAsh_77 : decode cX12_layAsh 77 = .ok (.iand, 1) := by decide +kernel
theorem dX12_layAsh_78 : decode cX12_layAsh 78 = .ok (.putfield 477, 3) := by decide +kernel
theorem dX12_layAsh_81 : decode cX12_layAsh 81 = .ok (.aload_n 0, 1) := by decide +kernel
theorem dX12_layAsh_82 : decode cX12_layAsh 82 = .ok (.dup, 1) := by decide +kernel
theorem dX12_layAsh_83 : decode cX12_layAsh 83 = .ok (.getfield 480, 3) := by decide +kernel
theorem dX12_layAsh_86 : decode cX12_layAsh 86 = .ok (.iload 4, 2) := by decide +kernel
theorem dX12_layAsh_88 : decode cX12_layAsh 88 = .ok (.iconst (-1), 1) := by decide +kernel
theorem dX12_layAsh_89 : decode cX12_layAsh 89 = .ok (.ixor, 1) := by decide +kernel
theorem dX12_layAsh_90 : decode cX12_layAsh 90 = .ok (.iand, 1) := by decide +kernel
theorem dX12_layAsh_91 : decode cX12_layAsh 91 = .ok (.putfield 480, 3) := by decide +kernel
theorem dX12_layAsh_94 : decode cX12_layAsh 94 = .ok (.iinc 4 1, 3) := by decide +kernel
theorem dX12_layAsh_97 : decode cX12_layAsh 97 = .ok (.goto (-74), 3) := by decide +kernel
theorem dX12_layAsh_100 : decode cX12_layAsh 100 = .ok (.return_, 1) := by decide +kernel
theorem dX12_ash_0 : decode cX12_ash 0 = .ok (.iload_n 1, 1) := by decide +kernel
theorem dX12_ash_1 : decode cX12_ash 1 = .ok (.iconst 0, 1) := by decide +kernel
theorem dX12_ash_2 : decode cX12_ash 2 = .ok (.bipush 108, 2) := by decide +kernel
theorem dX12_ash_4 : decode cX12_ash 4 = .ok (.invokestatic 60, 3) := by decide +kernel
theorem dX12_ash_7 : decode cX12_ash 7 = .ok (.ifCond .eq 13, 3) := by decide +kernel
theorem dX12_ash_10 : decode cX12_ash 10 = .ok (.iload_n 2, 1) := by decide +kernel
theorem dX12_ash_11 : decode cX12_ash 11 = .ok (.iconst 0, 1) := by decide +kernel
theorem dX12_ash_12 : decode cX12_ash 12 = .ok (.bipush 12, 2) := by decide +kernel
theorem dX12_ash_14 : decode cX12_ash 14 = .ok (.invokestatic 60, 3) := by decide +kernel
theorem dX12_ash_17 : decode cX12_ash 17 = .ok (.ifCond .ne 5, 3) := by decide +kernel
theorem dX12_ash_20 : decode cX12_ash 20 = .ok (.iconst (-1), 1) := by decide +kernel
theorem dX12_ash_21 : decode cX12_ash 21 = .ok (.ireturn, 1) := by decide +kernel
theorem dX12_ash_22 : decode cX12_ash 22 = .ok (.aload_n 0, 1) := by decide +kernel
theorem dX12_ash_23 : decode cX12_ash 23 = .ok (.iload_n 1, 1) := by decide +kernel
theorem dX12_ash_24 : decode cX12_ash 24 = .ok (.iload_n 2, 1) := by decide +kernel
theorem dX12_ash_25 : decode cX12_ash 25 = .ok (.invokevirtual 486, 3) := by decide +kernel
theorem dX12_ash_28 : decode cX12_ash 28 = .ok (.aload_n 0, 1) := by decide +kernel
theorem dX12_ash_29 : decode cX12_ash 29 = .ok (.getfield 474, 3) := by decide +kernel
theorem dX12_ash_32 : decode cX12_ash 32 = .ok (.ireturn, 1) := by decide +kernel
theorem dX12_burnt_0 : decode cX12_burnt 0 = .ok (.iload_n 1, 1) := by decide +kernel
theorem dX12_burnt_1 : decode cX12_burnt 1 = .ok (.iconst 0, 1) := by decide +kernel
theorem dX12_burnt_2 : decode cX12_burnt 2 = .ok (.bipush 108, 2) := by decide +kernel
theorem dX12_burnt_4 : decode cX12_burnt 4 = .ok (.invokestatic 60, 3) := by decide +kernel
theorem dX12_burnt_7 : decode cX12_burnt 7 = .ok (.ifCond .eq 13, 3) := by decide +kernel
theorem dX12_burnt_10 : decode cX12_burnt 10 = .ok (.iload_n 2, 1) := by decide +kernel
theorem dX12_burnt_11 : decode cX12_burnt 11 = .ok (.iconst 0, 1) := by decide +kernel
theorem dX12_burnt_12 : decode cX12_burnt 12 = .ok (.bipush 12, 2) := by decide +kernel
theorem dX12_burnt_14 : decode cX12_burnt 14 = .ok (.invokestatic 60, 3) := by decide +kernel
theorem dX12_burnt_17 : decode cX12_burnt 17 = .ok (.ifCond .ne 5, 3) := by decide +kernel
theorem dX12_burnt_20 : decode cX12_burnt 20 = .ok (.iconst (-1), 1) := by decide +kernel
theorem dX12_burnt_21 : decode cX12_burnt 21 = .ok (.ireturn, 1) := by decide +kernel
theorem dX12_burnt_22 : decode cX12_burnt 22 = .ok (.aload_n 0, 1) := by decide +kernel
theorem dX12_burnt_23 : decode cX12_burnt 23 = .ok (.iload_n 1, 1) := by decide +kernel
theorem dX12_burnt_24 : decode cX12_burnt 24 = .ok (.iload_n 2, 1) := by decide +kernel
theorem dX12_burnt_25 : decode cX12_burnt 25 = .ok (.invokevirtual 486, 3) := by decide +kernel
theorem dX12_burnt_28 : decode cX12_burnt 28 = .ok (.aload_n 0, 1) := by decide +kernel
theorem dX12_burnt_29 : decode cX12_burnt 29 = .ok (.getfield 474, 3) := by decide +kernel
theorem dX12_burnt_32 : decode cX12_burnt 32 = .ok (.ifCond .ne 7, 3) := by decide +kernel
theorem dX12_burnt_35 : decode cX12_burnt 35 = .ok (.iconst 0, 1) := by decide +kernel
theorem dX12_burnt_36 : decode cX12_burnt 36 = .ok (.goto 18, 3) := by decide +kernel
theorem dX12_burnt_39 : decode cX12_burnt 39 = .ok (.iload_n 3, 1) := by decide +kernel
theorem dX12_burnt_40 : decode cX12_burnt 40 = .ok (.ifCond .eq 10, 3) := by decide +kernel
theorem dX12_burnt_43 : decode cX12_burnt 43 = .ok (.aload_n 0, 1) := by decide +kernel
theorem dX12_burnt_44 : decode cX12_burnt 44 = .ok (.getfield 477, 3) := by decide +kernel
theorem dX12_burnt_47 : decode cX12_burnt 47 = .ok (.goto 7, 3) := by decide +kernel
theorem dX12_burnt_50 : decode cX12_burnt 50 = .ok (.aload_n 0, 1) := by decide +kernel
theorem dX12_burnt_51 : decode cX12_burnt 51 = .ok (.getfield 480, 3) := by decide +kernel
theorem dX12_burnt_54 : decode cX12_burnt 54 = .ok (.ireturn, 1) := by decide +kernel
theorem dX12_said_0 : decode cX12_said 0 = .ok (.iload_n 1, 1) := by decide +kernel
theorem dX12_said_1 : decode cX12_said 1 = .ok (.iconst (-1), 1) := by decide +kernel
theorem dX12_said_2 : decode cX12_said 2 = .ok (.if_icmp .ne 13, 3) := by decide +kernel
theorem dX12_said_5 : decode cX12_said 5 = .ok (.aload_n 0, 1) := by decide +kernel
theorem dX12_said_6 : decode cX12_said 6 = .ok (.getfield 7, 3) := by decide +kernel
theorem dX12_said_9 : decode cX12_said 9 = .ok (.bipush 6, 2) := by decide +kernel
theorem dX12_said_11 : decode cX12_said 11 = .ok (.iconst 0, 1) := by decide +kernel
theorem dX12_said_12 : decode cX12_said 12 = .ok (.iastore, 1) := by decide +kernel
theorem dX12_said_13 : decode cX12_said 13 = .ok (.iconst 0, 1) := by decide +kernel
theorem dX12_said_14 : decode cX12_said 14 = .ok (.ireturn, 1) := by decide +kernel
theorem dX12_said_15 : decode cX12_said 15 = .ok (.aload_n 0, 1) := by decide +kernel
theorem dX12_said_16 : decode cX12_said 16 = .ok (.iload_n 1, 1) := by decide +kernel
theorem dX12_said_17 : decode cX12_said 17 = .ok (.invokevirtual 64, 3) := by decide +kernel
theorem dX12_said_20 : decode cX12_said 20 = .ok (.ifCond .eq 25, 3) := by decide +kernel
theorem dX12_said_23 : decode cX12_said 23 = .ok (.iload_n 2, 1) := by decide +kernel
theorem dX12_said_24 : decode cX12_said 24 = .ok (.iconst 0, 1) := by decide +kernel
theorem dX12_said_25 : decode cX12_said 25 = .ok (.bipush 10, 2) := by decide +kernel
theorem dX12_said_27 : decode cX12_said 27 = .ok (.invokestatic 60, 3) := by decide +kernel
theorem dX12_said_30 : decode cX12_said 30 = .ok (.ifCond .eq 15, 3) := by decide +kernel
theorem dX12_said_33 : decode cX12_said 33 = .ok (.aload_n 0, 1) := by decide +kernel
theorem dX12_said_34 : decode cX12_said 34 = .ok (.getfield 7, 3) := by decide +kernel
theorem dX12_said_37 : decode cX12_said 37 = .ok (.bipush 6, 2) := by decide +kernel
theorem dX12_said_39 : decode cX12_said 39 = .ok (.iaload, 1) := by decide +kernel
theorem dX12_said_40 : decode cX12_said 40 = .ok (.bipush 8, 2) := by decide +kernel
theorem dX12_said_42 : decode cX12_said 42 = .ok (.if_icmp .ne 6, 3) := by decide +kernel
theorem dX12_said_45 : decode cX12_said 45 = .ok (.bipush (-2), 2) := by decide +kernel
theorem dX12_said_47 : decode cX12_said 47 = .ok (.ireturn, 1) := by decide +kernel
theorem dX12_said_48 : decode cX12_said 48 = .ok (.aload_n 0, 1) := by decide +kernel
theorem dX12_said_49 : decode cX12_said 49 = .ok (.getfield 7, 3) := by decide +kernel
theorem dX12_said_52 : decode cX12_said 52 = .ok (.sipush 177, 3) := by decide +kernel
theorem dX12_said_55 : decode cX12_said 55 = .ok (.iconst 2, 1) := by decide +kernel
theorem dX12_said_56 : decode cX12_said 56 = .ok (.aload_n 0, 1) := by decide +kernel
theorem dX12_said_57 : decode cX12_said 57 = .ok (.getfield 7, 3) := by decide +kernel
theorem dX12_said_60 : decode cX12_said 60 = .ok (.bipush 6, 2) := by decide +kernel
theorem dX12_said_62 : decode cX12_said 62 = .ok (.iaload, 1) := by decide +kernel
theorem dX12_said_63 : decode cX12_said 63 = .ok (.imul, 1) := by decide +kernel
theorem dX12_said_64 : decode cX12_said 64 = .ok (.iadd, 1) := by decide +kernel
theorem dX12_said_65 : decode cX12_said 65 = .ok (.iload_n 1, 1) := by decide +kernel
theorem dX12_said_66 : decode cX12_said 66 = .ok (.iastore, 1) := by decide +kernel
theorem dX12_said_67 : decode cX12_said 67 = .ok (.aload_n 0, 1) := by decide +kernel
theorem dX12_said_68 : decode cX12_said 68 = .ok (.getfield 7, 3) := by decide +kernel
theorem dX12_said_71 : decode cX12_said 71 = .ok (.sipush 177, 3) := by decide +kernel
theorem dX12_said_74 : decode cX12_said 74 = .ok (.iconst 2, 1) := by decide +kernel
theorem dX12_said_75 : decode cX12_said 75 = .ok (.aload_n 0, 1) := by decide +kernel
theorem dX12_said_76 : decode cX12_said 76 = .ok (.getfield 7, 3) := by decide +kernel
theorem dX12_said_79 : decode cX12_said 79 = .ok (.bipush 6, 2) := by decide +kernel
theorem dX12_said_81 : decode cX12_said 81 = .ok (.iaload, 1) := by decide +kernel
theorem dX12_said_82 : decode cX12_said 82 = .ok (.imul, 1) := by decide +kernel
theorem dX12_said_83 : decode cX12_said 83 = .ok (.iadd, 1) := by decide +kernel
theorem dX12_said_84 : decode cX12_said 84 = .ok (.iconst 1, 1) := by decide +kernel
theorem dX12_said_85 : decode cX12_said 85 = .ok (.iadd, 1) := by decide +kernel
theorem dX12_said_86 : decode cX12_said 86 = .ok (.iload_n 2, 1) := by decide +kernel
theorem dX12_said_87 : decode cX12_said 87 = .ok (.iastore, 1) := by decide +kernel
theorem dX12_said_88 : decode cX12_said 88 = .ok (.aload_n 0, 1) := by decide +kernel
theorem dX12_said_89 : decode cX12_said 89 = .ok (.getfield 7, 3) := by decide +kernel
theorem dX12_said_92 : decode cX12_said 92 = .ok (.bipush 6, 2) := by decide +kernel
theorem dX12_said_94 : decode cX12_said 94 = .ok (.dup2, 1) := by decide +kernel
theorem dX12_said_95 : decode cX12_said 95 = .ok (.iaload, 1) := by decide +kernel
theorem dX12_said_96 : decode cX12_said 96 = .ok (.iconst 1, 1) := by decide +kernel
theorem dX12_said_97 : decode cX12_said 97 = .ok (.iadd, 1) := by decide +kernel
theorem dX12_said_98 : decode cX12_said 98 = .ok (.iastore, 1) := by decide +kernel
theorem dX12_said_99 : decode cX12_said 99 = .ok (.aload_n 0, 1) := by decide +kernel
theorem dX12_said_100 : decode cX12_said 100 = .ok (.getfield 7, 3) := by decide +kernel
theorem dX12_said_103 : decode cX12_said 103 = .ok (.bipush 6, 2) := by decide +kernel
theorem dX12_said_105 : decode cX12_said 105 = .ok (.iaload, 1) := by decide +kernel
theorem dX12_said_106 : decode cX12_said 106 = .ok (.ireturn, 1) := by decide +kernel
theorem dX12_whose_0 : decode cX12_whose 0 = .ok (.iconst 0, 1) := by decide +kernel
theorem dX12_whose_1 : decode cX12_whose 1 = .ok (.istore_n 1, 1) := by decide +kernel
theorem dX12_whose_2 : decode cX12_whose 2 = .ok (.iconst 0, 1) := by decide +kernel
theorem dX12_whose_3 : decode cX12_whose 3 = .ok (.istore_n 2, 1) := by decide +kernel
theorem dX12_whose_4 : decode cX12_whose 4 = .ok (.iload_n 2, 1) := by decide +kernel
theorem dX12_whose_5 : decode cX12_whose 5 = .ok (.aload_n 0, 1) := by decide +kernel
theorem dX12_whose_6 : decode cX12_whose 6 = .ok (.getfield 7, 3) := by decide +kernel
theorem dX12_whose_9 : decode cX12_whose 9 = .ok (.iconst 2, 1) := by decide +kernel
theorem dX12_whose_10 : decode cX12_whose 10 = .ok (.iaload, 1) := by decide +kernel
theorem dX12_whose_11 : decode cX12_whose 11 = .ok (.if_icmp .ge 92, 3) := by decide +kernel
theorem dX12_whose_14 : decode cX12_whose 14 = .ok (.iconst 1, 1) := by decide +kernel
theorem dX12_whose_15 : decode cX12_whose 15 = .ok (.istore_n 3, 1) := by decide +kernel
theorem dX12_whose_16 : decode cX12_whose 16 = .ok (.iconst 0, 1) := by decide +kernel
theorem dX12_whose_17 : decode cX12_whose 17 = .ok (.istore 4, 2) := by decide +kernel
theorem dX12_whose_19 : decode cX12_whose 19 = .ok (.iload 4, 2) := by decide +kernel
theorem dX12_whose_21 : decode cX12_whose 21 = .ok (.aload_n 0, 1) := by decide +kernel
theorem dX12_whose_22 : decode cX12_whose 22 = .ok (.getfield 7, 3) := by decide +kernel
theorem dX12_whose_25 : decode cX12_whose 25 = .ok (.bipush 6, 2) := by decide +kernel
theorem dX12_whose_27 : decode cX12_whose 27 = .ok (.iaload, 1) := by decide +kernel
theorem dX12_whose_28 : decode cX12_whose 28 = .ok (.if_icmp .ge 55, 3) := by decide +kernel
theorem dX12_whose_31 : decode cX12_whose 31 = .ok (.iload_n 3, 1) := by decide +kernel
theorem dX12_whose_32 : decode cX12_whose 32 = .ok (.ifCond .eq 43, 3) := by decide +kernel
theorem dX12_whose_35 : decode cX12_whose 35 = .ok (.aload_n 0, 1) := by decide +kernel
theorem dX12_whose_36 : decode cX12_whose 36 = .ok (.iload_n 2, 1) := by decide +kernel
theorem dX12_whose_37 : decode cX12_whose 37 = .ok (.aload_n 0, 1) := by decide +kernel
theorem dX12_whose_38 : decode cX12_whose 38 = .ok (.getfield 7, 3) := by decide +kernel
theorem dX12_whose_41 : decode cX12_whose 41 = .ok (.sipush 177, 3) := by decide +kernel
theorem dX12_whose_44 : decode cX12_whose 44 = .ok (.iconst 2, 1) := by decide +kernel
theorem dX12_whose_45 : decode cX12_whose 45 = .ok (.iload 4, 2) := by decide +kernel
theorem dX12_whose_47 : decode cX12_whose 47 = .ok (.imul, 1) := by decide +kernel
theorem dX12_whose_48 : decode cX12_whose 48 = .ok (.iadd, 1) := by decide +kernel
theorem dX12_whose_49 : decode cX12_whose 49 = .ok (.iaload, 1) := by decide +kernel
theorem dX12_whose_50 : decode cX12_whose 50 = .ok (.invokevirtual 343, 3) := by decide +kernel
theorem dX12_whose_53 : decode cX12_whose 53 = .ok (.aload_n 0, 1) := by decide +kernel
theorem dX12_whose_54 : decode cX12_whose 54 = .ok (.getfield 7, 3) := by decide +kernel
theorem dX12_whose_57 : decode cX12_whose 57 = .ok (.sipush 177, 3) := by decide +kernel
theorem dX12_whose_60 : decode cX12_whose 60 = .ok (.iconst 2, 1) := by decide +kernel
theorem dX12_whose_61 : decode cX12_whose 61 = .ok (.iload 4, 2) := by decide +kernel
theorem dX12_whose_63 : decode cX12_whose 63 = .ok (.imul, 1) := by decide +kernel
theorem dX12_whose_64 : decode cX12_whose 64 = .ok (.iadd, 1) := by decide +kernel
theorem dX12_whose_65 : decode cX12_whose 65 = .ok (.iconst 1, 1) := by decide +kernel
theorem dX12_whose_66 : decode cX12_whose 66 = .ok (.iadd, 1) := by decide +kernel
theorem dX12_whose_67 : decode cX12_whose 67 = .ok (.iaload, 1) := by decide +kernel
theorem dX12_whose_68 : decode cX12_whose 68 = .ok (.if_icmp .ne 7, 3) := by decide +kernel
theorem dX12_whose_71 : decode cX12_whose 71 = .ok (.iconst 1, 1) := by decide +kernel
theorem dX12_whose_72 : decode cX12_whose 72 = .ok (.goto 4, 3) := by decide +kernel
theorem dX12_whose_75 : decode cX12_whose 75 = .ok (.iconst 0, 1) := by decide +kernel
theorem dX12_whose_76 : decode cX12_whose 76 = .ok (.istore_n 3, 1) := by decide +kernel
theorem dX12_whose_77 : decode cX12_whose 77 = .ok (.iinc 4 1, 3) := by decide +kernel
theorem dX12_whose_80 : decode cX12_whose 80 = .ok (.goto (-61), 3) := by decide +kernel
theorem dX12_whose_83 : decode cX12_whose 83 = .ok (.iload_n 1, 1) := by decide +kernel
theorem dX12_whose_84 : decode cX12_whose 84 = .ok (.iload_n 3, 1) := by decide +kernel
theorem dX12_whose_85 : decode cX12_whose 85 = .ok (.ifCond .eq 9, 3) := by decide +kernel
theorem dX12_whose_88 : decode cX12_whose 88 = .ok (.iconst 1, 1) := by decide +kernel
theorem dX12_whose_89 : decode cX12_whose 89 = .ok (.iload_n 2, 1) := by decide +kernel
theorem dX12_whose_90 : decode cX12_whose 90 = .ok (.ishl, 1) := by decide +kernel
theorem dX12_whose_91 : decode cX12_whose 91 = .ok (.goto 4, 3) := by decide +kernel
theorem dX12_whose_94 : decode cX12_whose 94 = .ok (.iconst 0, 1) := by decide +kernel
theorem dX12_whose_95 : decode cX12_whose 95 = .ok (.ior, 1) := by decide +kernel
theorem dX12_whose_96 : decode cX12_whose 96 = .ok (.istore_n 1, 1) := by decide +kernel
theorem dX12_whose_97 : decode cX12_whose 97 = .ok (.iinc 2 1, 3) := by decide +kernel
theorem dX12_whose_100 : decode cX12_whose 100 = .ok (.goto (-96), 3) := by decide +kernel
theorem dX12_whose_103 : decode cX12_whose 103 = .ok (.iload_n 1, 1) := by decide +kernel
theorem dX12_whose_104 : decode cX12_whose 104 = .ok (.ireturn, 1) := by decide +kernel
theorem dX12_image_0 : decode cX12_image 0 = .ok (.aload_n 0, 1) := by decide +kernel
theorem dX12_image_1 : decode cX12_image 1 = .ok (.getfield 7, 3) := by decide +kernel
theorem dX12_image_4 : decode cX12_image 4 = .ok (.aload_n 0, 1) := by decide +kernel
theorem dX12_image_5 : decode cX12_image 5 = .ok (.getfield 13, 3) := by decide +kernel
theorem dX12_image_8 : decode cX12_image 8 = .ok (.invokestatic 56, 3) := by decide +kernel
theorem dX12_image_11 : decode cX12_image 11 = .ok (.aload_n 0, 1) := by decide +kernel
theorem dX12_image_12 : decode cX12_image 12 = .ok (.getfield 7, 3) := by decide +kernel
theorem dX12_image_15 : decode cX12_image 15 = .ok (.bipush 7, 2) := by decide +kernel
theorem dX12_image_17 : decode cX12_image 17 = .ok (.iaload, 1) := by decide +kernel
theorem dX12_image_18 : decode cX12_image 18 = .ok (.ireturn, 1) := by decide +kernel
theorem dX12_back_0 : decode cX12_back 0 = .ok (.aload_n 0, 1) := by decide +kernel
theorem dX12_back_1 : decode cX12_back 1 = .ok (.getfield 13, 3) := by decide +kernel
theorem dX12_back_4 : decode cX12_back 4 = .ok (.aload_n 0, 1) := by decide +kernel
theorem dX12_back_5 : decode cX12_back 5 = .ok (.getfield 7, 3) := by decide +kernel
theorem dX12_back_8 : decode cX12_back 8 = .ok (.invokestatic 56, 3) := by decide +kernel
theorem dX12_back_11 : decode cX12_back 11 = .ok (.aload_n 0, 1) := by decide +kernel
theorem dX12_back_12 : decode cX12_back 12 = .ok (.getfield 7, 3) := by decide +kernel
theorem dX12_back_15 : decode cX12_back 15 = .ok (.bipush 7, 2) := by decide +kernel
theorem dX12_back_17 : decode cX12_back 17 = .ok (.iaload, 1) := by decide +kernel
theorem dX12_back_18 : decode cX12_back 18 = .ok (.ireturn, 1) := by decide +kernel
theorem dX12_about_0 : decode cX12_about 0 = .ok (.iload_n 1, 1) := by decide +kernel
theorem dX12_about_1 : decode cX12_about 1 = .ok (.iconst 0, 1) := by decide +kernel
theorem dX12_about_2 : decode cX12_about 2 = .ok (.bipush 6, 2) := by decide +kernel
theorem dX12_about_4 : decode cX12_about 4 = .ok (.invokestatic 60, 3) := by decide +kernel
theorem dX12_about_7 : decode cX12_about 7 = .ok (.ifCond .eq 12, 3) := by decide +kernel
theorem dX12_about_10 : decode cX12_about 10 = .ok (.aload_n 0, 1) := by decide +kernel
theorem dX12_about_11 : decode cX12_about 11 = .ok (.getfield 7, 3) := by decide +kernel
theorem dX12_about_14 : decode cX12_about 14 = .ok (.iload_n 1, 1) := by decide +kernel
theorem dX12_about_15 : decode cX12_about 15 = .ok (.iaload, 1) := by decide +kernel
theorem dX12_about_16 : decode cX12_about 16 = .ok (.goto 18, 3) := by decide +kernel
theorem dX12_about_19 : decode cX12_about 19 = .ok (.iload_n 1, 1) := by decide +kernel
theorem dX12_about_20 : decode cX12_about 20 = .ok (.bipush 7, 2) := by decide +kernel
theorem dX12_about_22 : decode cX12_about 22 = .ok (.if_icmp .ne 10, 3) := by decide +kernel
theorem dX12_about_25 : decode cX12_about 25 = .ok (.aload_n 0, 1) := by decide +kernel
theorem dX12_about_26 : decode cX12_about 26 = .ok (.getfield 85, 3) := by decide +kernel
theorem dX12_about_29 : decode cX12_about 29 = .ok (.goto 5, 3) := by decide +kernel
theorem dX12_about_32 : decode cX12_about 32 = .ok (.bipush (-2), 2) := by decide +kernel
theorem dX12_about_34 : decode cX12_about 34 = .ok (.ireturn, 1) := by decide +kernel
theorem dX2_init_0 : decode cX2_init 0 = .ok (.aload_n 0, 1) := by decide +kernel
theorem dX2_init_1 : decode cX2_init 1 = .ok (.invokespecial 3, 3) := by decide +kernel
theorem dX2_init_4 : decode cX2_init 4 = .ok (.aload_n 0, 1) := by decide +kernel
theorem dX2_init_5 : decode cX2_init 5 = .ok (.bipush 64, 2) := by decide +kernel
theorem dX2_init_7 : decode cX2_init 7 = .ok (.newarray .int, 2) := by decide +kernel
theorem dX2_init_9 : decode cX2_init 9 = .ok (.putfield 9, 3) := by decide +kernel
theorem dX2_init_12 : decode cX2_init 12 = .ok (.aload_n 0, 1) := by decide +kernel
theorem dX2_init_13 : decode cX2_init 13 = .ok (.bipush 9, 2) := by decide +kernel
theorem dX2_init_15 : decode cX2_init 15 = .ok (.newarray .int, 2) := by decide +kernel
theorem dX2_init_17 : decode cX2_init 17 = .ok (.putfield 15, 3) := by decide +kernel
theorem dX2_init_20 : decode cX2_init 20 = .ok (.aload_n 0, 1) := by decide +kernel
theorem dX2_init_21 : decode cX2_init 21 = .ok (.aload_n 1, 1) := by decide +kernel
theorem dX2_init_22 : decode cX2_init 22 = .ok (.putfield 18, 3) := by decide +kernel
theorem dX2_init_25 : decode cX2_init 25 = .ok (.return_, 1) := by decide +kernel
theorem dX2_value_0 : decode cX2_value 0 = .ok (.aload_n 0, 1) := by decide +kernel
theorem dX2_value_1 : decode cX2_value 1 = .ok (.aload_n 3, 1) := by decide +kernel
theorem dX2_value_2 : decode cX2_value 2 = .ok (.iload 4, 2) := by decide +kernel
theorem dX2_value_4 : decode cX2_value 4 = .ok (.iload 5, 2) := by decide +kernel
theorem dX2_value_6 : decode cX2_value 6 = .ok (.invokevirtual 22, 3) := by decide +kernel
theorem dX2_value_9 : decode cX2_value 9 = .ok (.iconst 0, 1) := by decide +kernel
theorem dX2_value_10 : decode cX2_value 10 = .ok (.istore 6, 2) := by decide +kernel
theorem dX2_value_12 : decode cX2_value 12 = .ok (.aload_n 1, 1) := by decide +kernel
theorem dX2_value_13 : decode cX2_value 13 = .ok (.getfield 26, 3) := by decide +kernel
theorem dX2_value_16 : decode cX2_value 16 = .ok (.iload_n 2, 1) := by decide +kernel
theorem dX2_value_17 : decode cX2_value 17 = .ok (.iaload, 1) := by decide +kernel
theorem dX2_value_18 : decode cX2_value 18 = .ok (.aload_n 1, 1) := by decide +kernel
theorem dX2_value_19 : decode cX2_value 19 = .ok (.getfield 31, 3) := by decide +kernel
theorem dX2_value_22 : decode cX2_value 22 = .ok (.arraylength, 1) := by decide +kernel
theorem dX2_value_23 : decode cX2_value 23 = .ok (.invokestatic 34, 3) := by decide +kernel
theorem dX2_value_26 : decode cX2_value 26 = .ok (.istore 7, 2) := by decide +kernel
theorem dX2_value_28 : decode cX2_value 28 = .ok (.aload_n 1, 1) := by decide +kernel
theorem dX2_value_29 : decode cX2_value 29 = .ok (.getfield 40, 3) := by decide +kernel
theorem dX2_value_32 : decode cX2_value 32 = .ok (.iload_n 2, 1) := by decide +kernel
theorem dX2_value_33 : decode cX2_value 33 = .ok (.iaload, 1) := by decide +kernel
theorem dX2_value_34 : decode cX2_value 34 = .ok (.istore 8, 2) := by decide +kernel
theorem dX2_value_36 : decode cX2_value 36 = .ok (.iload 8, 2) := by decide +kernel
theorem dX2_value_38 : decode cX2_value 38 = .ok (.iload 7, 2) := by decide +kernel
theorem dX2_value_40 : decode cX2_value 40 = .ok (.if_icmp .ge 260, 3) := by decide +kernel
theorem dX2_value_43 : decode cX2_value 43 = .ok (.aload_n 1, 1) := by decide +kernel
theorem dX2_value_44 : decode cX2_value 44 = .ok (.getfield 31, 3) := by decide +kernel
theorem dX2_value_47 : decode cX2_value 47 = .ok (.iload 8, 2) := by decide +kernel
theorem dX2_value_49 : decode cX2_value 49 = .ok (.iaload, 1) := by decide +kernel
theorem dX2_value_50 : decode cX2_value 50 = .ok (.sipush 16384, 3) := by decide +kernel
theorem dX2_value_53 : decode cX2_value 53 = .ok (.idiv, 1) := by decide +kernel
theorem dX2_value_54 : decode cX2_value 54 = .ok (.istore 9, 2) := by decide +kernel
theorem dX2_value_56 : decode cX2_value 56 = .ok (.aload_n 1, 1) := by decide +kernel
theorem dX2_value_57 : decode cX2_value 57 = .ok (.getfield 31, 3) := by decide +kernel
theorem dX2_value_60 : decode cX2_value 60 = .ok (.iload 8, 2) := by decide +kernel
theorem dX2_value_62 : decode cX2_value 62 = .ok (.iaload, 1) := by decide +kernel
theorem dX2_value_63 : decode cX2_value 63 = .ok (.sipush 16384, 3) := by decide +kernel
theorem dX2_value_66 : decode cX2_value 66 = .ok (.irem, 1) := by decide +kernel
theorem dX2_value_67 : decode cX2_value 67 = .ok (.istore 10, 2) := by decide +kernel
theorem dX2_value_69 : decode cX2_value 69 = .ok (.iload 9, 2) := by decide +kernel
theorem dX2_value_71 : decode cX2_value 71 = .ok (.bipush 22, 2) := by decide +kernel
theorem dX2_value_73 : decode cX2_value 73 = .ok (.if_icmp .ne 17, 3) := by decide +kernel
theorem dX2_value_76 : decode cX2_value 76 = .ok (.iload 8, 2) := by decide +kernel
theorem dX2_value_78 : decode cX2_value 78 = .ok (.iload 10, 2) := by decide +kernel
theorem dX2_value_80 : decode cX2_value 80 = .ok (.iconst 1, 1) := by decide +kernel
theorem dX2_value_81 : decode cX2_value 81 = .ok (.isub, 1) := by decide +kernel
theorem dX2_value_82 : decode cX2_value 82 = .ok (.invokestatic 43, 3) := by decide +kernel
theorem dX2_value_85 : decode cX2_value 85 = .ok (.istore 8, 2) := by decide +kernel
theorem dX2_value_87 : decode cX2_value 87 = .ok (.goto 207, 3) := by decide +kernel
theorem dX2_value_90 : decode cX2_value 90 = .ok (.iload 9, 2) := by decide +kernel
theorem dX2_value_92 : decode cX2_value 92 = .ok (.bipush 30, 2) := by decide +kernel
theorem dX2_value_94 : decode cX2_value 94 = .ok (.if_icmp .eq 15, 3) := by decide +kernel
theorem dX2_value_97 : decode cX2_value 97 = .ok (.iload 9, 2) := by decide +kernel
theorem dX2_value_99 : decode cX2_value 99 = .ok (.bipush 9, 2) := by decide +kernel
theorem dX2_value_101 : decode cX2_value 101 = .ok (.bipush 17, 2) := by decide +kernel
theorem dX2_value_103 : decode cX2_value 103 = .ok (.invokestatic 46, 3) := by decide +kernel
theorem dX2_value_106 : decode cX2_value 106 = .ok (.ifCond .eq 50, 3) := by decide +kernel
theorem dX2_value_109 : decode cX2_value 109 = .ok (.iload 6, 2) := by decide +kernel
theorem dX2_value_111 : decode cX2_value 111 = .ok (.aload_n 0, 1) := by decide +kernel
theorem dX2_value_112 : decode cX2_value 112 = .ok (.getfield 9, 3) := by decide +kernel
theorem dX2_value_115 : decode cX2_value 115 = .ok (.arraylength, 1) := by decide +kernel
theorem dX2_value_116 : decode cX2_value 116 = .ok (.if_icmp .lt 5, 3) := by decide +kernel
theorem dX2_value_119 : decode cX2_value 119 = .ok (.iconst 0, 1) := by decide +kernel
theorem dX2_value_120 : decode cX2_value 120 = .ok (.ireturn, 1) := by decide +kernel
theorem dX2_value_121 : decode cX2_value 121 = .ok (.aload_n 0, 1) := by decide +kernel
theorem dX2_value_122 : decode cX2_value 122 = .ok (.getfield 9, 3) := by decide +kernel
theorem dX2_value_125 : decode cX2_value 125 = .ok (.iload 6, 2) := by decide +kernel
theorem dX2_value_127 : decode cX2_value 127 = .ok (.iload 9, 2) := by decide +kernel
theorem dX2_value_129 : decode cX2_value 129 = .ok (.bipush 30, 2) := by decide +kernel
theorem dX2_value_131 : decode cX2_value 131 = .ok (.if_icmp .ne 8, 3) := by decide +kernel
theorem dX2_value_134 : decode cX2_value 134 = .ok (.iload 10, 2) := by decide +kernel
theorem dX2_value_136 : decode cX2_value 136 = .ok (.goto 13, 3) := by decide +kernel
theorem dX2_value_139 : decode cX2_value 139 = .ok (.aload_n 0, 1) := by decide +kernel
theorem dX2_value_140 : decode cX2_value 140 = .ok (.getfield 15, 3) := by decide +kernel
theorem dX2_value_143 : decode cX2_value 143 = .ok (.iload 9, 2) := by decide +kernel
theorem dX2_value_145 : decode cX2_value 145 = .ok (.bipush 9, 2) := by decide +kernel
theorem dX2_value_147 : decode cX2_value 147 = .ok (.isub, 1) := by decide +kernel
theorem dX2_value_148 : decode cX2_value 148 = .ok (.iaload, 1) := by decide +kernel
theorem dX2_value_149 : decode cX2_value 149 = .ok (.iastore, 1) := by decide +kernel
theorem dX2_value_150 : decode cX2_value 150 = .ok (.iinc 6 1, 3) := by decide +kernel
theorem dX2_value_153 : decode cX2_value 153 = .ok (.goto 141, 3) := by decide +kernel
theorem dX2_value_156 : decode cX2_value 156 = .ok (.iload 6, 2) := by decide +kernel
theorem dX2_value_158 : decode cX2_value 158 = .ok (.iconst 1, 1) := by decide +kernel
theorem dX2_value_159 : decode cX2_value 159 = .ok (.if_icmp .ge 5, 3) := by decide +kernel
theorem dX2_value_162 : decode cX2_value 162 = .ok (.iconst 0, 1) := by decide +kernel
theorem dX2_value_163 : decode cX2_value 163 = .ok (.ireturn, 1) := by decide +kernel
theorem dX2_value_164 : decode cX2_value 164 = .ok (.iload 9, 2) := by decide +kernel
theorem dX2_value_166 : decode cX2_value 166 = .ok (.bipush 21, 2) := by decide +kernel
theorem dX2_value_168 : decode cX2_value 168 = .ok (.if_icmp .ne 35, 3) := by decide +kernel
theorem dX2_value_171 : decode cX2_value 171 = .ok (.iinc 6 (-1), 3) := by decide +kernel
theorem dX2_value_174 : decode cX2_value 174 = .ok (.aload_n 0, 1) := by decide +kernel
theorem dX2_value_175 : decode cX2_value 175 = .ok (.getfield 9, 3) := by decide +kernel
theorem dX2_value_178 : decode cX2_value 178 = .ok (.iload 6, 2) := by decide +kernel
theorem dX2_value_180 : decode cX2_value 180 = .ok (.iaload, 1) := by decide +kernel
theorem dX2_value_181 : decode cX2_value 181 = .ok (.ifCond .eq 8, 3) := by decide +kernel
theorem dX2_value_184 : decode cX2_value 184 = .ok (.iload 8, 2) := by decide +kernel
theorem dX2_value_186 : decode cX2_value 186 = .ok (.goto 12, 3) := by decide +kernel
theorem dX2_value_189 : decode cX2_value 189 = .ok (.iload 8, 2) := by decide +kernel
theorem dX2_value_191 : decode cX2_value 191 = .ok (.iload 10, 2) := by decide +kernel
theorem dX2_value_193 : decode cX2_value 193 = .ok (.iconst 1, 1) := by decide +kernel
theorem dX2_value_194 : decode cX2_value 194 = .ok (.isub, 1) := by decide +kernel
theorem dX2_value_195 : decode cX2_value 195 = .ok (.invokestatic 43, 3) := by decide +kernel
theorem dX2_value_198 : decode cX2_value 198 = .ok (.istore 8, 2) := by decide +kernel
theorem dX2_value_200 : decode cX2_value 200 = .ok (.goto 94, 3) := by decide +kernel
theorem dX2_value_203 : decode cX2_value 203 = .ok (.iload 9, 2) := by decide +kernel
theorem dX2_value_205 : decode cX2_value 205 = .ok (.bipush 45, 2) := by decide +kernel
theorem dX2_value_207 : decode cX2_value 207 = .ok (.if_icmp .eq 17, 3) := by decide +kernel
theorem dX2_value_210 : decode cX2_value 210 = .ok (.iload 9, 2) := by decide +kernel
theorem dX2_value_212 : decode cX2_value 212 = .ok (.bipush 25, 2) := by decide +kernel
theorem dX2_value_214 : decode cX2_value 214 = .ok (.if_icmp .eq 10, 3) := by decide +kernel
theorem dX2_value_217 : decode cX2_value 217 = .ok (.iload 9, 2) := by decide +kernel
theorem dX2_value_219 : decode cX2_value 219 = .ok (.bipush 27, 2) := by decide +kernel
theorem dX2_value_221 : decode cX2_value 221 = .ok (.if_icmp .ne 30, 3) := by decide +kernel
theorem dX2_value_224 : decode cX2_value 224 = .ok (.aload_n 0, 1) := by decide +kernel
theorem dX2_value_225 : decode cX2_value 225 = .ok (.getfield 9, 3) := by decide +kernel
theorem dX2_value_228 : decode cX2_value 228 = .ok (.iload 6, 2) := by decide +kernel
theorem dX2_value_230 : decode cX2_value 230 = .ok (.iconst 1, 1) := by decide +kernel
theorem dX2_value_231 : decode cX2_value 231 = .ok (.isub, 1) := by decide +kernel
theorem dX2_value_232 : decode cX2_value 232 = .ok (.aload_n 0, 1) := by decide +kernel
theorem dX2_value_233 : decode cX2_value 233 = .ok (.iload 9, 2) := by decide +kernel
theorem dX2_value_235 : decode cX2_value 235 = .ok (.aload_n 0, 1) := by decide +kernel
theorem dX2_value_236 : decode cX2_value 236 = .ok (.getfield 9, 3) := by decide +kernel
theorem dX2_value_239 : decode cX2_value 239 = .ok (.iload 6, 2) := by decide +kernel
theorem dX2_value_241 : decode cX2_value 241 = .ok (.iconst 1, 1) := by decide +kernel
theorem dX2_value_242 : decode cX2_value 242 = .ok (.isub, 1) := by decide +kernel
theorem dX2_value_243 : decode cX2_value 243 = .ok (.iaload, 1) := by decide +kernel
theorem dX2_value_244 : decode cX2_value 244 = .ok (.invokevirtual 50, 3) := by decide +kernel
theorem dX2_value_247 : decode cX2_value 247 = .ok (.iastore, 1) := by decide +kernel
theorem dX2_value_248 : decode cX2_value 248 = .ok (.goto 46, 3) := by decide +kernel
theorem dX2_value_251 : decode cX2_value 251 = .ok (.iload 6, 2) := by decide +kernel
theorem dX2_value_253 : decode cX2_value 253 = .ok (.iconst 2, 1) := by decide +kernel
theorem dX2_value_254 : decode cX2_value 254 = .ok (.if_icmp .ge 5, 3) := by decide +kernel
theorem dX2_value_257 : decode cX2_value 257 = .ok (.iconst 0, 1) := by decide +kernel
theorem dX2_value_258 : decode cX2_value 258 = .ok (.ireturn, 1) := by decide +kernel
theorem dX2_value_259 : decode cX2_value 259 = .ok (.iinc 6 (-1), 3) := by decide +kernel
theorem dX2_value_262 : decode cX2_value 262 = .ok (.aload_n 0, 1) := by decide +kernel
theorem dX2_value_263 : decode cX2_value 263 = .ok (.getfield 9, 3) := by decide +kernel
theorem dX2_value_266 : decode cX2_value 266 = .ok (.iload 6, 2) := by decide +kernel
theorem dX2_value_268 : decode cX2_value 268 = .ok (.iconst 1, 1) := by decide +kernel
theorem dX2_value_269 : decode cX2_value 269 = .ok (.isub, 1) := by decide +kernel
theorem dX2_value_270 : decode cX2_value 270 = .ok (.iload 9, 2) := by decide +kernel
theorem dX2_value_272 : decode cX2_value 272 = .ok (.aload_n 0, 1) := by decide +kernel
theorem dX2_value_273 : decode cX2_value 273 = .ok (.getfield 9, 3) := by decide +kernel
theorem dX2_value_276 : decode cX2_value 276 = .ok (.iload 6, 2) := by decide +kernel
theorem dX2_value_278 : decode cX2_value 278 = .ok (.iconst 1, 1) := by decide +kernel
theorem dX2_value_279 : decode cX2_value 279 = .ok (.isub, 1) := by decide +kernel
theorem dX2_value_280 : decode cX2_value 280 = .ok (.iaload, 1) := by decide +kernel
theorem dX2_value_281 : decode cX2_value 281 = .ok (.i2l, 1) := by decide +kernel
theorem dX2_value_282 : decode cX2_value 282 = .ok (.aload_n 0, 1) := by decide +kernel
theorem dX2_value_283 : decode cX2_value 283 = .ok (.getfield 9, 3) := by decide +kernel
theorem dX2_value_286 : decode cX2_value 286 = .ok (.iload 6, 2) := by decide +kernel
theorem dX2_value_288 : decode cX2_value 288 = .ok (.iaload, 1) := by decide +kernel
theorem dX2_value_289 : decode cX2_value 289 = .ok (.i2l, 1) := by decide +kernel
theorem dX2_value_290 : decode cX2_value 290 = .ok (.invokestatic 53, 3) := by decide +kernel
theorem dX2_value_293 : decode cX2_value 293 = .ok (.iastore, 1) := by decide +kernel
theorem dX2_value_294 : decode cX2_value 294 = .ok (.iinc 8 1, 3) := by decide +kernel
theorem dX2_value_297 : decode cX2_value 297 = .ok (.goto (-261), 3) := by decide +kernel
theorem dX2_value_300 : decode cX2_value 300 = .ok (.iload 6, 2) := by decide +kernel
theorem dX2_value_302 : decode cX2_value 302 = .ok (.iconst 1, 1) := by decide +kernel
theorem dX2_value_303 : decode cX2_value 303 = .ok (.if_icmp .ge 7, 3) := by decide +kernel
theorem dX2_value_306 : decode cX2_value 306 = .ok (.iconst 0, 1) := by decide +kernel
theorem dX2_value_307 : decode cX2_value 307 = .ok (.goto 9, 3) := by decide +kernel
theorem dX2_value_310 : decode cX2_value 310 = .ok (.aload_n 0, 1) := by decide +kernel
theorem dX2_value_311 : decode cX2_value 311 = .ok (.getfield 9, 3) := by decide +kernel
theorem dX2_value_314 : decode cX2_value 314 = .ok (.iconst 0, 1) := by decide +kernel
theorem dX2_value_315 : decode cX2_value 315 = .ok (.iaload, 1) := by decide +kernel
theorem dX2_value_316 : decode cX2_value 316 = .ok (.ireturn, 1) := by decide +kernel
theorem dX2_nameAll_0 : decode cX2_nameAll 0 = .ok (.aload_n 0, 1) := by decide +kernel
theorem dX2_nameAll_1 : decode cX2_nameAll 1 = .ok (.getfield 15, 3) := by decide +kernel
theorem dX2_nameAll_4 : decode cX2_nameAll 4 = .ok (.iconst 0, 1) := by decide +kernel
theorem dX2_nameAll_5 : decode cX2_nameAll 5 = .ok (.iload_n 2, 1) := by decide +kernel
theorem dX2_nameAll_6 : decode cX2_nameAll 6 = .ok (.iastore, 1) := by decide +kernel
theorem dX2_nameAll_7 : decode cX2_nameAll 7 = .ok (.aload_n 0, 1) := by decide +kernel
theorem dX2_nameAll_8 : decode cX2_nameAll 8 = .ok (.getfield 15, 3) := by decide +kernel
theorem dX2_nameAll_11 : decode cX2_nameAll 11 = .ok (.iconst 2, 1) := by decide +kernel
theorem dX2_nameAll_12 : decode cX2_nameAll 12 = .ok (.aload_n 1, 1) := by decide +kernel
theorem dX2_nameAll_13 : decode cX2_nameAll 13 = .ok (.getfield 57, 3) := by decide +kernel
theorem dX2_nameAll_16 : decode cX2_nameAll 16 = .ok (.iastore, 1) := by decide +kernel
theorem dX2_nameAll_17 : decode cX2_nameAll 17 = .ok (.aload_n 0, 1) := by decide +kernel
theorem dX2_nameAll_18 : decode cX2_nameAll 18 = .ok (.getfield 15, 3) := by decide +kernel
theorem dX2_nameAll_21 : decode cX2_nameAll 21 = .ok (.iconst 3, 1) := by decide +kernel
theorem dX2_nameAll_22 : decode cX2_nameAll 22 = .ok (.aload_n 0, 1) := by decide +kernel
theorem dX2_nameAll_23 : decode cX2_nameAll 23 = .ok (.getfield 18, 3) := by decide +kernel
theorem dX2_nameAll_26 : decode cX2_nameAll 26 = .ok (.getfield 63, 3) := by decide +kernel
theorem dX2_nameAll_29 : decode cX2_nameAll 29 = .ok (.iload_n 2, 1) := by decide +kernel
theorem dX2_nameAll_30 : decode cX2_nameAll 30 = .ok (.iaload, 1) := by decide +kernel
theorem dX2_nameAll_31 : decode cX2_nameAll 31 = .ok (.iastore, 1) := by decide +kernel
theorem dX2_nameAll_32 : decode cX2_nameAll 32 = .ok (.aload_n 0, 1) := by decide +kernel
theorem dX2_nameAll_33 : decode cX2_nameAll 33 = .ok (.getfield 15, 3) := by decide +kernel
theorem dX2_nameAll_36 : decode cX2_nameAll 36 = .ok (.iconst 4, 1) := by decide +kernel
theorem dX2_nameAll_37 : decode cX2_nameAll 37 = .ok (.aload_n 0, 1) := by decide +kernel
theorem dX2_nameAll_38 : decode cX2_nameAll 38 = .ok (.getfield 18, 3) := by decide +kernel
theorem dX2_nameAll_41 : decode cX2_nameAll 41 = .ok (.getfield 68, 3) := by decide +kernel
