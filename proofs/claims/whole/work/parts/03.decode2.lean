theorem dX12_nameOf_205 : decode cX12_nameOf 205 = .ok (.bipush 8, 2) := by decide +kernel
theorem dX12_nameOf_207 : decode cX12_nameOf 207 = .ok (.goto 4, 3) := by decide +kernel
theorem dX12_nameOf_210 : decode cX12_nameOf 210 = .ok (.iconst (-1), 1) := by decide +kernel
theorem dX12_nameOf_211 : decode cX12_nameOf 211 = .ok (.ireturn, 1) := by decide +kernel
theorem dX12_rank_0 : decode cX12_rank 0 = .ok (.iload_n 0, 1) := by decide +kernel
theorem dX12_rank_1 : decode cX12_rank 1 = .ok (.bipush 40, 2) := by decide +kernel
theorem dX12_rank_3 : decode cX12_rank 3 = .ok (.if_icmp .lt 7, 3) := by decide +kernel
theorem dX12_rank_6 : decode cX12_rank 6 = .ok (.iconst 0, 1) := by decide +kernel
theorem dX12_rank_7 : decode cX12_rank 7 = .ok (.goto 75, 3) := by decide +kernel
theorem dX12_rank_10 : decode cX12_rank 10 = .ok (.iload_n 0, 1) := by decide +kernel
theorem dX12_rank_11 : decode cX12_rank 11 = .ok (.bipush 22, 2) := by decide +kernel
theorem dX12_rank_13 : decode cX12_rank 13 = .ok (.if_icmp .ne 7, 3) := by decide +kernel
theorem dX12_rank_16 : decode cX12_rank 16 = .ok (.iconst 1, 1) := by decide +kernel
theorem dX12_rank_17 : decode cX12_rank 17 = .ok (.goto 65, 3) := by decide +kernel
theorem dX12_rank_20 : decode cX12_rank 20 = .ok (.iload_n 0, 1) := by decide +kernel
theorem dX12_rank_21 : decode cX12_rank 21 = .ok (.bipush 21, 2) := by decide +kernel
theorem dX12_rank_23 : decode cX12_rank 23 = .ok (.if_icmp .ne 7, 3) := by decide +kernel
theorem dX12_rank_26 : decode cX12_rank 26 = .ok (.iconst 2, 1) := by decide +kernel
theorem dX12_rank_27 : decode cX12_rank 27 = .ok (.goto 55, 3) := by decide +kernel
theorem dX12_rank_30 : decode cX12_rank 30 = .ok (.iload_n 0, 1) := by decide +kernel
theorem dX12_rank_31 : decode cX12_rank 31 = .ok (.bipush 20, 2) := by decide +kernel
theorem dX12_rank_33 : decode cX12_rank 33 = .ok (.if_icmp .ne 7, 3) := by decide +kernel
theorem dX12_rank_36 : decode cX12_rank 36 = .ok (.iconst 3, 1) := by decide +kernel
theorem dX12_rank_37 : decode cX12_rank 37 = .ok (.goto 45, 3) := by decide +kernel
theorem dX12_rank_40 : decode cX12_rank 40 = .ok (.iload_n 0, 1) := by decide +kernel
theorem dX12_rank_41 : decode cX12_rank 41 = .ok (.bipush 10, 2) := by decide +kernel
theorem dX12_rank_43 : decode cX12_rank 43 = .ok (.if_icmp .lt 7, 3) := by decide +kernel
theorem dX12_rank_46 : decode cX12_rank 46 = .ok (.iconst 4, 1) := by decide +kernel
theorem dX12_rank_47 : decode cX12_rank 47 = .ok (.goto 35, 3) := by decide +kernel
theorem dX12_rank_50 : decode cX12_rank 50 = .ok (.iload_n 0, 1) := by decide +kernel
theorem dX12_rank_51 : decode cX12_rank 51 = .ok (.iconst 5, 1) := by decide +kernel
theorem dX12_rank_52 : decode cX12_rank 52 = .ok (.if_icmp .eq 13, 3) := by decide +kernel
theorem dX12_rank_55 : decode cX12_rank 55 = .ok (.iload_n 0, 1) := by decide +kernel
theorem dX12_rank_56 : decode cX12_rank 56 = .ok (.iconst 2, 1) := by decide +kernel
theorem dX12_rank_57 : decode cX12_rank 57 = .ok (.if_icmp .eq 8, 3) := by decide +kernel
theorem dX12_rank_60 : decode cX12_rank 60 = .ok (.iload_n 0, 1) := by decide +kernel
theorem dX12_rank_61 : decode cX12_rank 61 = .ok (.iconst 4, 1) := by decide +kernel
theorem dX12_rank_62 : decode cX12_rank 62 = .ok (.if_icmp .ne 8, 3) := by decide +kernel
theorem dX12_rank_65 : decode cX12_rank 65 = .ok (.bipush 7, 2) := by decide +kernel
theorem dX12_rank_67 : decode cX12_rank 67 = .ok (.goto 15, 3) := by decide +kernel
theorem dX12_rank_70 : decode cX12_rank 70 = .ok (.iload_n 0, 1) := by decide +kernel
theorem dX12_rank_71 : decode cX12_rank 71 = .ok (.bipush 8, 2) := by decide +kernel
theorem dX12_rank_73 : decode cX12_rank 73 = .ok (.if_icmp .lt 8, 3) := by decide +kernel
theorem dX12_rank_76 : decode cX12_rank 76 = .ok (.bipush 6, 2) := by decide +kernel
theorem dX12_rank_78 : decode cX12_rank 78 = .ok (.goto 4, 3) := by decide +kernel
theorem dX12_rank_81 : decode cX12_rank 81 = .ok (.iconst 5, 1) := by decide +kernel
theorem dX12_rank_82 : decode cX12_rank 82 = .ok (.ireturn, 1) := by decide +kernel
theorem dX12_settle_0 : decode cX12_settle 0 = .ok (.aload_n 0, 1) := by decide +kernel
theorem dX12_settle_1 : decode cX12_settle 1 = .ok (.getfield 150, 3) := by decide +kernel
theorem dX12_settle_4 : decode cX12_settle 4 = .ok (.ifCond .le 89, 3) := by decide +kernel
theorem dX12_settle_7 : decode cX12_settle 7 = .ok (.aload_n 0, 1) := by decide +kernel
theorem dX12_settle_8 : decode cX12_settle 8 = .ok (.getfield 29, 3) := by decide +kernel
theorem dX12_settle_11 : decode cX12_settle 11 = .ok (.aload_n 0, 1) := by decide +kernel
theorem dX12_settle_12 : decode cX12_settle 12 = .ok (.getfield 150, 3) := by decide +kernel
theorem dX12_settle_15 : decode cX12_settle 15 = .ok (.iconst 1, 1) := by decide +kernel
theorem dX12_settle_16 : decode cX12_settle 16 = .ok (.isub, 1) := by decide +kernel
theorem dX12_settle_17 : decode cX12_settle 17 = .ok (.iaload, 1) := by decide +kernel
theorem dX12_settle_18 : decode cX12_settle 18 = .ok (.invokestatic 153, 3) := by decide +kernel
theorem dX12_settle_21 : decode cX12_settle 21 = .ok (.iload_n 1, 1) := by decide +kernel
theorem dX12_settle_22 : decode cX12_settle 22 = .ok (.if_icmp .lt 71, 3) := by decide +kernel
theorem dX12_settle_25 : decode cX12_settle 25 = .ok (.aload_n 0, 1) := by decide +kernel
theorem dX12_settle_26 : decode cX12_settle 26 = .ok (.dup, 1) := by decide +kernel
theorem dX12_settle_27 : decode cX12_settle 27 = .ok (.getfield 150, 3) := by decide +kernel
theorem dX12_settle_30 : decode cX12_settle 30 = .ok (.iconst 1, 1) := by decide +kernel
theorem dX12_settle_31 : decode cX12_settle 31 = .ok (.isub, 1) := by decide +kernel
theorem dX12_settle_32 : decode cX12_settle 32 = .ok (.putfield 150, 3) := by decide +kernel
theorem dX12_settle_35 : decode cX12_settle 35 = .ok (.aload_n 0, 1) := by decide +kernel
theorem dX12_settle_36 : decode cX12_settle 36 = .ok (.aload_n 0, 1) := by decide +kernel
theorem dX12_settle_37 : decode cX12_settle 37 = .ok (.getfield 29, 3) := by decide +kernel
theorem dX12_settle_40 : decode cX12_settle 40 = .ok (.aload_n 0, 1) := by decide +kernel
theorem dX12_settle_41 : decode cX12_settle 41 = .ok (.getfield 150, 3) := by decide +kernel
theorem dX12_settle_44 : decode cX12_settle 44 = .ok (.iaload, 1) := by decide +kernel
theorem dX12_settle_45 : decode cX12_settle 45 = .ok (.iconst 0, 1) := by decide +kernel
theorem dX12_settle_46 : decode cX12_settle 46 = .ok (.invokevirtual 156, 3) := by decide +kernel
theorem dX12_settle_49 : decode cX12_settle 49 = .ok (.aload_n 0, 1) := by decide +kernel
theorem dX12_settle_50 : decode cX12_settle 50 = .ok (.getfield 29, 3) := by decide +kernel
theorem dX12_settle_53 : decode cX12_settle 53 = .ok (.aload_n 0, 1) := by decide +kernel
theorem dX12_settle_54 : decode cX12_settle 54 = .ok (.getfield 150, 3) := by decide +kernel
theorem dX12_settle_57 : decode cX12_settle 57 = .ok (.iaload, 1) := by decide +kernel
theorem dX12_settle_58 : decode cX12_settle 58 = .ok (.invokestatic 153, 3) := by decide +kernel
theorem dX12_settle_61 : decode cX12_settle 61 = .ok (.bipush 7, 2) := by decide +kernel
theorem dX12_settle_63 : decode cX12_settle 63 = .ok (.if_icmp .eq 17, 3) := by decide +kernel
theorem dX12_settle_66 : decode cX12_settle 66 = .ok (.aload_n 0, 1) := by decide +kernel
theorem dX12_settle_67 : decode cX12_settle 67 = .ok (.getfield 29, 3) := by decide +kernel
theorem dX12_settle_70 : decode cX12_settle 70 = .ok (.aload_n 0, 1) := by decide +kernel
theorem dX12_settle_71 : decode cX12_settle 71 = .ok (.getfield 150, 3) := by decide +kernel
theorem dX12_settle_74 : decode cX12_settle 74 = .ok (.iaload, 1) := by decide +kernel
theorem dX12_settle_75 : decode cX12_settle 75 = .ok (.bipush 20, 2) := by decide +kernel
theorem dX12_settle_77 : decode cX12_settle 77 = .ok (.if_icmp .ne (-77), 3) := by decide +kernel
theorem dX12_settle_80 : decode cX12_settle 80 = .ok (.aload_n 0, 1) := by decide +kernel
theorem dX12_settle_81 : decode cX12_settle 81 = .ok (.dup, 1) := by decide +kernel
theorem dX12_settle_82 : decode cX12_settle 82 = .ok (.getfield 160, 3) := by decide +kernel
theorem dX12_settle_85 : decode cX12_settle 85 = .ok (.iconst 1, 1) := by decide +kernel
theorem dX12_settle_86 : decode cX12_settle 86 = .ok (.isub, 1) := by decide +kernel
theorem dX12_settle_87 : decode cX12_settle 87 = .ok (.putfield 160, 3) := by decide +kernel
theorem dX12_settle_90 : decode cX12_settle 90 = .ok (.goto (-90), 3) := by decide +kernel
theorem dX12_settle_93 : decode cX12_settle 93 = .ok (.return_, 1) := by decide +kernel
theorem dX12_openAt_0 : decode cX12_openAt 0 = .ok (.aload_n 0, 1) := by decide +kernel
theorem dX12_openAt_1 : decode cX12_openAt 1 = .ok (.getfield 150, 3) := by decide +kernel
theorem dX12_openAt_4 : decode cX12_openAt 4 = .ok (.iconst 1, 1) := by decide +kernel
theorem dX12_openAt_5 : decode cX12_openAt 5 = .ok (.isub, 1) := by decide +kernel
theorem dX12_openAt_6 : decode cX12_openAt 6 = .ok (.istore_n 1, 1) := by decide +kernel
theorem dX12_openAt_7 : decode cX12_openAt 7 = .ok (.iload_n 1, 1) := by decide +kernel
theorem dX12_openAt_8 : decode cX12_openAt 8 = .ok (.ifCond .lt 20, 3) := by decide +kernel
theorem dX12_openAt_11 : decode cX12_openAt 11 = .ok (.aload_n 0, 1) := by decide +kernel
theorem dX12_openAt_12 : decode cX12_openAt 12 = .ok (.getfield 29, 3) := by decide +kernel
theorem dX12_openAt_15 : decode cX12_openAt 15 = .ok (.iload_n 1, 1) := by decide +kernel
theorem dX12_openAt_16 : decode cX12_openAt 16 = .ok (.iaload, 1) := by decide +kernel
theorem dX12_openAt_17 : decode cX12_openAt 17 = .ok (.bipush 40, 2) := by decide +kernel
theorem dX12_openAt_19 : decode cX12_openAt 19 = .ok (.if_icmp .ge 9, 3) := by decide +kernel
theorem dX12_openAt_22 : decode cX12_openAt 22 = .ok (.iinc 1 (-1), 3) := by decide +kernel
theorem dX12_openAt_25 : decode cX12_openAt 25 = .ok (.goto (-18), 3) := by decide +kernel
theorem dX12_openAt_28 : decode cX12_openAt 28 = .ok (.iload_n 1, 1) := by decide +kernel
theorem dX12_openAt_29 : decode cX12_openAt 29 = .ok (.ireturn, 1) := by decide +kernel
theorem dX12_openNow_0 : decode cX12_openNow 0 = .ok (.aload_n 0, 1) := by decide +kernel
theorem dX12_openNow_1 : decode cX12_openNow 1 = .ok (.invokevirtual 163, 3) := by decide +kernel
theorem dX12_openNow_4 : decode cX12_openNow 4 = .ok (.ifCond .ge 7, 3) := by decide +kernel
theorem dX12_openNow_7 : decode cX12_openNow 7 = .ok (.iconst (-1), 1) := by decide +kernel
theorem dX12_openNow_8 : decode cX12_openNow 8 = .ok (.goto 12, 3) := by decide +kernel
theorem dX12_openNow_11 : decode cX12_openNow 11 = .ok (.aload_n 0, 1) := by decide +kernel
theorem dX12_openNow_12 : decode cX12_openNow 12 = .ok (.getfield 29, 3) := by decide +kernel
theorem dX12_openNow_15 : decode cX12_openNow 15 = .ok (.aload_n 0, 1) := by decide +kernel
theorem dX12_openNow_16 : decode cX12_openNow 16 = .ok (.invokevirtual 163, 3) := by decide +kernel
theorem dX12_openNow_19 : decode cX12_openNow 19 = .ok (.iaload, 1) := by decide +kernel
theorem dX12_openNow_20 : decode cX12_openNow 20 = .ok (.ireturn, 1) := by decide +kernel
theorem dX12_isCompared_0 : decode cX12_isCompared 0 = .ok (.aload_n 0, 1) := by decide +kernel
theorem dX12_isCompared_1 : decode cX12_isCompared 1 = .ok (.getfield 150, 3) := by decide +kernel
theorem dX12_isCompared_4 : decode cX12_isCompared 4 = .ok (.iconst 1, 1) := by decide +kernel
theorem dX12_isCompared_5 : decode cX12_isCompared 5 = .ok (.isub, 1) := by decide +kernel
theorem dX12_isCompared_6 : decode cX12_isCompared 6 = .ok (.istore_n 1, 1) := by decide +kernel
theorem dX12_isCompared_7 : decode cX12_isCompared 7 = .ok (.iload_n 1, 1) := by decide +kernel
theorem dX12_isCompared_8 : decode cX12_isCompared 8 = .ok (.ifCond .lt 22, 3) := by decide +kernel
theorem dX12_isCompared_11 : decode cX12_isCompared 11 = .ok (.aload_n 0, 1) := by decide +kernel
theorem dX12_isCompared_12 : decode cX12_isCompared 12 = .ok (.getfield 29, 3) := by decide +kernel
theorem dX12_isCompared_15 : decode cX12_isCompared 15 = .ok (.iload_n 1, 1) := by decide +kernel
theorem dX12_isCompared_16 : decode cX12_isCompared 16 = .ok (.iaload, 1) := by decide +kernel
theorem dX12_isCompared_17 : decode cX12_isCompared 17 = .ok (.invokestatic 153, 3) := by decide +kernel
theorem dX12_isCompared_20 : decode cX12_isCompared 20 = .ok (.iconst 4, 1) := by decide +kernel
theorem dX12_isCompared_21 : decode cX12_isCompared 21 = .ok (.if_icmp .le 9, 3) := by decide +kernel
theorem dX12_isCompared_24 : decode cX12_isCompared 24 = .ok (.iinc 1 (-1), 3) := by decide +kernel
theorem dX12_isCompared_27 : decode cX12_isCompared 27 = .ok (.goto (-20), 3) := by decide +kernel
theorem dX12_isCompared_30 : decode cX12_isCompared 30 = .ok (.iload_n 1, 1) := by decide +kernel
theorem dX12_isCompared_31 : decode cX12_isCompared 31 = .ok (.ifCond .lt 20, 3) := by decide +kernel
theorem dX12_isCompared_34 : decode cX12_isCompared 34 = .ok (.aload_n 0, 1) := by decide +kernel
theorem dX12_isCompared_35 : decode cX12_isCompared 35 = .ok (.getfield 29, 3) := by decide +kernel
theorem dX12_isCompared_38 : decode cX12_isCompared 38 = .ok (.iload_n 1, 1) := by decide +kernel
theorem dX12_isCompared_39 : decode cX12_isCompared 39 = .ok (.iaload, 1) := by decide +kernel
theorem dX12_isCompared_40 : decode cX12_isCompared 40 = .ok (.invokestatic 153, 3) := by decide +kernel
theorem dX12_isCompared_43 : decode cX12_isCompared 43 = .ok (.iconst 4, 1) := by decide +kernel
theorem dX12_isCompared_44 : decode cX12_isCompared 44 = .ok (.if_icmp .ne 7, 3) := by decide +kernel
theorem dX12_isCompared_47 : decode cX12_isCompared 47 = .ok (.iconst 1, 1) := by decide +kernel
theorem dX12_isCompared_48 : decode cX12_isCompared 48 = .ok (.goto 4, 3) := by decide +kernel
theorem dX12_isCompared_51 : decode cX12_isCompared 51 = .ok (.iconst 0, 1) := by decide +kernel
theorem dX12_isCompared_52 : decode cX12_isCompared 52 = .ok (.ireturn, 1) := by decide +kernel
theorem dX12_isAskAhead_0 : decode cX12_isAskAhead 0 = .ok (.aload_n 0, 1) := by decide +kernel
theorem dX12_isAskAhead_1 : decode cX12_isAskAhead 1 = .ok (.invokevirtual 167, 3) := by decide +kernel
theorem dX12_isAskAhead_4 : decode cX12_isAskAhead 4 = .ok (.bipush 42, 2) := by decide +kernel
theorem dX12_isAskAhead_6 : decode cX12_isAskAhead 6 = .ok (.if_icmp .ne 45, 3) := by decide +kernel
theorem dX12_isAskAhead_9 : decode cX12_isAskAhead 9 = .ok (.aload_n 0, 1) := by decide +kernel
theorem dX12_isAskAhead_10 : decode cX12_isAskAhead 10 = .ok (.getfield 29, 3) := by decide +kernel
theorem dX12_isAskAhead_13 : decode cX12_isAskAhead 13 = .ok (.aload_n 0, 1) := by decide +kernel
theorem dX12_isAskAhead_14 : decode cX12_isAskAhead 14 = .ok (.getfield 150, 3) := by decide +kernel
theorem dX12_isAskAhead_17 : decode cX12_isAskAhead 17 = .ok (.iconst 1, 1) := by decide +kernel
theorem dX12_isAskAhead_18 : decode cX12_isAskAhead 18 = .ok (.isub, 1) := by decide +kernel
theorem dX12_isAskAhead_19 : decode cX12_isAskAhead 19 = .ok (.iaload, 1) := by decide +kernel
theorem dX12_isAskAhead_20 : decode cX12_isAskAhead 20 = .ok (.bipush 40, 2) := by decide +kernel
theorem dX12_isAskAhead_22 : decode cX12_isAskAhead 22 = .ok (.if_icmp .ge 25, 3) := by decide +kernel
theorem dX12_isAskAhead_25 : decode cX12_isAskAhead 25 = .ok (.aload_n 0, 1) := by decide +kernel
theorem dX12_isAskAhead_26 : decode cX12_isAskAhead 26 = .ok (.getfield 29, 3) := by decide +kernel
theorem dX12_isAskAhead_29 : decode cX12_isAskAhead 29 = .ok (.aload_n 0, 1) := by decide +kernel
theorem dX12_isAskAhead_30 : decode cX12_isAskAhead 30 = .ok (.getfield 150, 3) := by decide +kernel
theorem dX12_isAskAhead_33 : decode cX12_isAskAhead 33 = .ok (.iconst 1, 1) := by decide +kernel
theorem dX12_isAskAhead_34 : decode cX12_isAskAhead 34 = .ok (.isub, 1) := by decide +kernel
theorem dX12_isAskAhead_35 : decode cX12_isAskAhead 35 = .ok (.iaload, 1) := by decide +kernel
theorem dX12_isAskAhead_36 : decode cX12_isAskAhead 36 = .ok (.invokestatic 153, 3) := by decide +kernel
theorem dX12_isAskAhead_39 : decode cX12_isAskAhead 39 = .ok (.iconst 1, 1) := by decide +kernel
theorem dX12_isAskAhead_40 : decode cX12_isAskAhead 40 = .ok (.iconst 3, 1) := by decide +kernel
theorem dX12_isAskAhead_41 : decode cX12_isAskAhead 41 = .ok (.invokestatic 60, 3) := by decide +kernel
theorem dX12_isAskAhead_44 : decode cX12_isAskAhead 44 = .ok (.ifCond .eq 7, 3) := by decide +kernel
theorem dX12_isAskAhead_47 : decode cX12_isAskAhead 47 = .ok (.iconst 1, 1) := by decide +kernel
theorem dX12_isAskAhead_48 : decode cX12_isAskAhead 48 = .ok (.goto 4, 3) := by decide +kernel
theorem dX12_isAskAhead_51 : decode cX12_isAskAhead 51 = .ok (.iconst 0, 1) := by decide +kernel
theorem dX12_isAskAhead_52 : decode cX12_isAskAhead 52 = .ok (.ireturn, 1) := by decide +kernel
theorem dX12_opened_0 : decode cX12_opened 0 = .ok (.aload_n 0, 1) := by decide +kernel
theorem dX12_opened_1 : decode cX12_opened 1 = .ok (.getfield 160, 3) := by decide +kernel
theorem dX12_opened_4 : decode cX12_opened 4 = .ok (.bipush 8, 2) := by decide +kernel
theorem dX12_opened_6 : decode cX12_opened 6 = .ok (.if_icmp .ne 5, 3) := by decide +kernel
theorem dX12_opened_9 : decode cX12_opened 9 = .ok (.iconst 3, 1) := by decide +kernel
theorem dX12_opened_10 : decode cX12_opened 10 = .ok (.ireturn, 1) := by decide +kernel
theorem dX12_opened_11 : decode cX12_opened 11 = .ok (.aload_n 0, 1) := by decide +kernel
theorem dX12_opened_12 : decode cX12_opened 12 = .ok (.dup, 1) := by decide +kernel
theorem dX12_opened_13 : decode cX12_opened 13 = .ok (.getfield 160, 3) := by decide +kernel
theorem dX12_opened_16 : decode cX12_opened 16 = .ok (.iconst 1, 1) := by decide +kernel
theorem dX12_opened_17 : decode cX12_opened 17 = .ok (.iadd, 1) := by decide +kernel
theorem dX12_opened_18 : decode cX12_opened 18 = .ok (.putfield 160, 3) := by decide +kernel
theorem dX12_opened_21 : decode cX12_opened 21 = .ok (.aload_n 0, 1) := by decide +kernel
theorem dX12_opened_22 : decode cX12_opened 22 = .ok (.getfield 29, 3) := by decide +kernel
theorem dX12_opened_25 : decode cX12_opened 25 = .ok (.aload_n 0, 1) := by decide +kernel
theorem dX12_opened_26 : decode cX12_opened 26 = .ok (.getfield 150, 3) := by decide +kernel
theorem dX12_opened_29 : decode cX12_opened 29 = .ok (.iload_n 1, 1) := by decide +kernel
theorem dX12_opened_30 : decode cX12_opened 30 = .ok (.iastore, 1) := by decide +kernel
theorem dX12_opened_31 : decode cX12_opened 31 = .ok (.aload_n 0, 1) := by decide +kernel
theorem dX12_opened_32 : decode cX12_opened 32 = .ok (.dup, 1) := by decide +kernel
theorem dX12_opened_33 : decode cX12_opened 33 = .ok (.getfield 150, 3) := by decide +kernel
theorem dX12_opened_36 : decode cX12_opened 36 = .ok (.iconst 1, 1) := by decide +kernel
theorem dX12_opened_37 : decode cX12_opened 37 = .ok (.iadd, 1) := by decide +kernel
theorem dX12_opened_38 : decode cX12_opened 38 = .ok (.putfield 150, 3) := by decide +kernel
theorem dX12_opened_41 : decode cX12_opened 41 = .ok (.aload_n 0, 1) := by decide +kernel
theorem dX12_opened_42 : decode cX12_opened 42 = .ok (.invokevirtual 170, 3) := by decide +kernel
theorem dX12_opened_45 : decode cX12_opened 45 = .ok (.iconst 0, 1) := by decide +kernel
theorem dX12_opened_46 : decode cX12_opened 46 = .ok (.ireturn, 1) := by decide +kernel
theorem dX12_beginOne_0 : decode cX12_beginOne 0 = .ok (.aload_n 0, 1) := by decide +kernel
theorem dX12_beginOne_1 : decode cX12_beginOne 1 = .ok (.getfield 102, 3) := by decide +kernel
theorem dX12_beginOne_4 : decode cX12_beginOne 4 = .ok (.iconst 1, 1) := by decide +kernel
theorem dX12_beginOne_5 : decode cX12_beginOne 5 = .ok (.if_icmp .ne 15, 3) := by decide +kernel
theorem dX12_beginOne_8 : decode cX12_beginOne 8 = .ok (.aload_n 0, 1) := by decide +kernel
theorem dX12_beginOne_9 : decode cX12_beginOne 9 = .ok (.getfield 108, 3) := by decide +kernel
theorem dX12_beginOne_12 : decode cX12_beginOne 12 = .ok (.sipush 9999, 3) := by decide +kernel
theorem dX12_beginOne_15 : decode cX12_beginOne 15 = .ok (.if_icmp .le 5, 3) := by decide +kernel
theorem dX12_beginOne_18 : decode cX12_beginOne 18 = .ok (.iconst 2, 1) := by decide +kernel
theorem dX12_beginOne_19 : decode cX12_beginOne 19 = .ok (.ireturn, 1) := by decide +kernel
theorem dX12_beginOne_20 : decode cX12_beginOne 20 = .ok (.aload_n 0, 1) := by decide +kernel
theorem dX12_beginOne_21 : decode cX12_beginOne 21 = .ok (.invokevirtual 173, 3) := by decide +kernel
theorem dX12_beginOne_24 : decode cX12_beginOne 24 = .ok (.istore_n 1, 1) := by decide +kernel
theorem dX12_beginOne_25 : decode cX12_beginOne 25 = .ok (.iload_n 1, 1) := by decide +kernel
theorem dX12_beginOne_26 : decode cX12_beginOne 26 = .ok (.iconst 4, 1) := by decide +kernel
theorem dX12_beginOne_27 : decode cX12_beginOne 27 = .ok (.if_icmp .le 12, 3) := by decide +kernel
theorem dX12_beginOne_30 : decode cX12_beginOne 30 = .ok (.aload_n 0, 1) := by decide +kernel
theorem dX12_beginOne_31 : decode cX12_beginOne 31 = .ok (.getfield 176, 3) := by decide +kernel
theorem dX12_beginOne_34 : decode cX12_beginOne 34 = .ok (.ifCond .eq 5, 3) := by decide +kernel
theorem dX12_beginOne_37 : decode cX12_beginOne 37 = .ok (.iconst 5, 1) := by decide +kernel
theorem dX12_beginOne_38 : decode cX12_beginOne 38 = .ok (.ireturn, 1) := by decide +kernel
theorem dX12_beginOne_39 : decode cX12_beginOne 39 = .ok (.aload_n 0, 1) := by decide +kernel
theorem dX12_beginOne_40 : decode cX12_beginOne 40 = .ok (.getfield 102, 3) := by decide +kernel
theorem dX12_beginOne_43 : decode cX12_beginOne 43 = .ok (.iconst 1, 1) := by decide +kernel
theorem dX12_beginOne_44 : decode cX12_beginOne 44 = .ok (.if_icmp .eq 7, 3) := by decide +kernel
theorem dX12_beginOne_47 : decode cX12_beginOne 47 = .ok (.iload_n 1, 1) := by decide +kernel
theorem dX12_beginOne_48 : decode cX12_beginOne 48 = .ok (.ifCond .lt 45, 3) := by decide +kernel
theorem dX12_beginOne_51 : decode cX12_beginOne 51 = .ok (.aload_n 0, 1) := by decide +kernel
theorem dX12_beginOne_52 : decode cX12_beginOne 52 = .ok (.aload_n 0, 1) := by decide +kernel
theorem dX12_beginOne_53 : decode cX12_beginOne 53 = .ok (.getfield 102, 3) := by decide +kernel
theorem dX12_beginOne_56 : decode cX12_beginOne 56 = .ok (.iconst 1, 1) := by decide +kernel
theorem dX12_beginOne_57 : decode cX12_beginOne 57 = .ok (.if_icmp .ne 7, 3) := by decide +kernel
theorem dX12_beginOne_60 : decode cX12_beginOne 60 = .ok (.iconst 0, 1) := by decide +kernel
theorem dX12_beginOne_61 : decode cX12_beginOne 61 = .ok (.goto 4, 3) := by decide +kernel
theorem dX12_beginOne_64 : decode cX12_beginOne 64 = .ok (.iconst 1, 1) := by decide +kernel
theorem dX12_beginOne_65 : decode cX12_beginOne 65 = .ok (.aload_n 0, 1) := by decide +kernel
theorem dX12_beginOne_66 : decode cX12_beginOne 66 = .ok (.getfield 102, 3) := by decide +kernel
theorem dX12_beginOne_69 : decode cX12_beginOne 69 = .ok (.iconst 1, 1) := by decide +kernel
theorem dX12_beginOne_70 : decode cX12_beginOne 70 = .ok (.if_icmp .ne 10, 3) := by decide +kernel
theorem dX12_beginOne_73 : decode cX12_beginOne 73 = .ok (.aload_n 0, 1) := by decide +kernel
theorem dX12_beginOne_74 : decode cX12_beginOne 74 = .ok (.getfield 108, 3) := by decide +kernel
theorem dX12_beginOne_77 : decode cX12_beginOne 77 = .ok (.goto 4, 3) := by decide +kernel
theorem dX12_beginOne_80 : decode cX12_beginOne 80 = .ok (.iload_n 1, 1) := by decide +kernel
theorem dX12_beginOne_81 : decode cX12_beginOne 81 = .ok (.invokevirtual 156, 3) := by decide +kernel
theorem dX12_beginOne_84 : decode cX12_beginOne 84 = .ok (.aload_n 0, 1) := by decide +kernel
theorem dX12_beginOne_85 : decode cX12_beginOne 85 = .ok (.invokevirtual 170, 3) := by decide +kernel
theorem dX12_beginOne_88 : decode cX12_beginOne 88 = .ok (.aload_n 0, 1) := by decide +kernel
theorem dX12_beginOne_89 : decode cX12_beginOne 89 = .ok (.invokevirtual 179, 3) := by decide +kernel
theorem dX12_beginOne_92 : decode cX12_beginOne 92 = .ok (.ireturn, 1) := by decide +kernel
theorem dX12_beginOne_93 : decode cX12_beginOne 93 = .ok (.aload_n 0, 1) := by decide +kernel
theorem dX12_beginOne_94 : decode cX12_beginOne 94 = .ok (.getfield 102, 3) := by decide +kernel
theorem dX12_beginOne_97 : decode cX12_beginOne 97 = .ok (.bipush 40, 2) := by decide +kernel
theorem dX12_beginOne_99 : decode cX12_beginOne 99 = .ok (.if_icmp .ne 10, 3) := by decide +kernel
theorem dX12_beginOne_102 : decode cX12_beginOne 102 = .ok (.aload_n 0, 1) := by decide +kernel
theorem dX12_beginOne_103 : decode cX12_beginOne 103 = .ok (.bipush 40, 2) := by decide +kernel
theorem dX12_beginOne_105 : decode cX12_beginOne 105 = .ok (.invokevirtual 182, 3) := by decide +kernel
theorem dX12_beginOne_108 : decode cX12_beginOne 108 = .ok (.ireturn, 1) := by decide +kernel
theorem dX12_beginOne_109 : decode cX12_beginOne 109 = .ok (.aload_n 0, 1) := by decide +kernel
theorem dX12_beginOne_110 : decode cX12_beginOne 110 = .ok (.getfield 102, 3) := by decide +kernel
theorem dX12_beginOne_113 : decode cX12_beginOne 113 = .ok (.bipush 45, 2) := by decide +kernel
theorem dX12_beginOne_115 : decode cX12_beginOne 115 = .ok (.if_icmp .ne 9, 3) := by decide +kernel
theorem dX12_beginOne_118 : decode cX12_beginOne 118 = .ok (.aload_n 0, 1) := by decide +kernel
theorem dX12_beginOne_119 : decode cX12_beginOne 119 = .ok (.iconst 5, 1) := by decide +kernel
theorem dX12_beginOne_120 : decode cX12_beginOne 120 = .ok (.invokevirtual 182, 3) := by decide +kernel
theorem dX12_beginOne_123 : decode cX12_beginOne 123 = .ok (.ireturn, 1) := by decide +kernel
theorem dX12_beginOne_124 : decode cX12_beginOne 124 = .ok (.aload_n 0, 1) := by decide +kernel
theorem dX12_beginOne_125 : decode cX12_beginOne 125 = .ok (.bipush 101, 2) := by decide +kernel
theorem dX12_beginOne_127 : decode cX12_beginOne 127 = .ok (.bipush 118, 2) := by decide +kernel
theorem dX12_beginOne_129 : decode cX12_beginOne 129 = .ok (.bipush 101, 2) := by decide +kernel
theorem dX12_beginOne_131 : decode cX12_beginOne 131 = .ok (.bipush 110, 2) := by decide +kernel
theorem dX12_beginOne_133 : decode cX12_beginOne 133 = .ok (.invokestatic 132, 3) := by decide +kernel
theorem dX12_beginOne_136 : decode cX12_beginOne 136 = .ok (.invokevirtual 185, 3) := by decide +kernel
theorem dX12_beginOne_139 : decode cX12_beginOne 139 = .ok (.ifCond .eq 10, 3) := by decide +kernel
theorem dX12_beginOne_142 : decode cX12_beginOne 142 = .ok (.aload_n 0, 1) := by decide +kernel
theorem dX12_beginOne_143 : decode cX12_beginOne 143 = .ok (.bipush 41, 2) := by decide +kernel
theorem dX12_beginOne_145 : decode cX12_beginOne 145 = .ok (.invokevirtual 182, 3) := by decide +kernel
theorem dX12_beginOne_148 : decode cX12_beginOne 148 = .ok (.ireturn, 1) := by decide +kernel
theorem dX12_beginOne_149 : decode cX12_beginOne 149 = .ok (.aload_n 0, 1) := by decide +kernel
theorem dX12_beginOne_150 : decode cX12_beginOne 150 = .ok (.bipush 119, 2) := by decide +kernel
theorem dX12_beginOne_152 : decode cX12_beginOne 152 = .ok (.bipush 111, 2) := by decide +kernel
theorem dX12_beginOne_154 : decode cX12_beginOne 154 = .ok (.bipush 114, 2) := by decide +kernel
theorem dX12_beginOne_156 : decode cX12_beginOne 156 = .ok (.bipush 116, 2) := by decide +kernel
theorem dX12_beginOne_158 : decode cX12_beginOne 158 = .ok (.bipush 104, 2) := by decide +kernel
theorem dX12_beginOne_160 : decode cX12_beginOne 160 = .ok (.bipush 115, 2) := by decide +kernel
theorem dX12_beginOne_162 : decode cX12_beginOne 162 = .ok (.invokestatic 146, 3) := by decide +kernel
theorem dX12_beginOne_165 : decode cX12_beginOne 165 = .ok (.invokevirtual 185, 3) := by decide +kernel
theorem dX12_beginOne_168 : decode cX12_beginOne 168 = .ok (.ifCond .eq 9, 3) := by decide +kernel
theorem dX12_beginOne_171 : decode cX12_beginOne 171 = .ok (.aload_n 0, 1) := by decide +kernel
theorem dX12_beginOne_172 : decode cX12_beginOne 172 = .ok (.iconst 2, 1) := by decide +kernel
theorem dX12_beginOne_173 : decode cX12_beginOne 173 = .ok (.invokevirtual 182, 3) := by decide +kernel
theorem dX12_beginOne_176 : decode cX12_beginOne 176 = .ok (.ireturn, 1) := by decide +kernel
theorem dX12_beginOne_177 : decode cX12_beginOne 177 = .ok (.aload_n 0, 1) := by decide +kernel
theorem dX12_beginOne_178 : decode cX12_beginOne 178 = .ok (.bipush 105, 2) := by decide +kernel
theorem dX12_beginOne_180 : decode cX12_beginOne 180 = .ok (.bipush 102, 2) := by decide +kernel
theorem dX12_beginOne_182 : decode cX12_beginOne 182 = .ok (.invokestatic 124, 3) := by decide +kernel
theorem dX12_beginOne_185 : decode cX12_beginOne 185 = .ok (.invokevirtual 185, 3) := by decide +kernel
theorem dX12_beginOne_188 : decode cX12_beginOne 188 = .ok (.ifCond .eq 10, 3) := by decide +kernel
theorem dX12_beginOne_191 : decode cX12_beginOne 191 = .ok (.aload_n 0, 1) := by decide +kernel
theorem dX12_beginOne_192 : decode cX12_beginOne 192 = .ok (.bipush 42, 2) := by decide +kernel
theorem dX12_beginOne_194 : decode cX12_beginOne 194 = .ok (.invokevirtual 182, 3) := by decide +kernel
theorem dX12_beginOne_197 : decode cX12_beginOne 197 = .ok (.ireturn, 1) := by decide +kernel
theorem dX12_beginOne_198 : decode cX12_beginOne 198 = .ok (.aload_n 0, 1) := by decide +kernel
theorem dX12_beginOne_199 : decode cX12_beginOne 199 = .ok (.bipush 110, 2) := by decide +kernel
theorem dX12_beginOne_201 : decode cX12_beginOne 201 = .ok (.bipush 111, 2) := by decide +kernel
theorem dX12_beginOne_203 : decode cX12_beginOne 203 = .ok (.bipush 116, 2) := by decide +kernel
theorem dX12_beginOne_205 : decode cX12_beginOne 205 = .ok (.invokestatic 128, 3) := by decide +kernel
theorem dX12_beginOne_208 : decode cX12_beginOne 208 = .ok (.invokevirtual 185, 3) := by decide +kernel
theorem dX12_beginOne_211 : decode cX12_beginOne 211 = .ok (.ifCond .eq 19, 3) := by decide +kernel
theorem dX12_beginOne_214 : decode cX12_beginOne 214 = .ok (.aload_n 0, 1) := by decide +kernel
theorem dX12_beginOne_215 : decode cX12_beginOne 215 = .ok (.invokevirtual 189, 3) := by decide +kernel
theorem dX12_beginOne_218 : decode cX12_beginOne 218 = .ok (.ifCond .eq 12, 3) := by decide +kernel
theorem dX12_beginOne_221 : decode cX12_beginOne 221 = .ok (.aload_n 0, 1) := by decide +kernel
theorem dX12_beginOne_222 : decode cX12_beginOne 222 = .ok (.bipush 20, 2) := by decide +kernel
theorem dX12_beginOne_224 : decode cX12_beginOne 224 = .ok (.invokevirtual 182, 3) := by decide +kernel
theorem dX12_beginOne_227 : decode cX12_beginOne 227 = .ok (.goto 4, 3) := by decide +kernel
theorem dX12_beginOne_230 : decode cX12_beginOne 230 = .ok (.iconst 1, 1) := by decide +kernel
theorem dX12_beginOne_231 : decode cX12_beginOne 231 = .ok (.ireturn, 1) := by decide +kernel
theorem dX12_endOne_0 : decode cX12_endOne 0 = .ok (.aload_n 0, 1) := by decide +kernel
theorem dX12_endOne_1 : decode cX12_endOne 1 = .ok (.bipush 7, 2) := by decide +kernel
theorem dX12_endOne_3 : decode cX12_endOne 3 = .ok (.invokevirtual 193, 3) := by decide +kernel
theorem dX12_endOne_6 : decode cX12_endOne 6 = .ok (.aload_n 0, 1) := by decide +kernel
theorem dX12_endOne_7 : decode cX12_endOne 7 = .ok (.iconst 1, 1) := by decide +kernel
theorem dX12_endOne_8 : decode cX12_endOne 8 = .ok (.putfield 196, 3) := by decide +kernel
theorem dX12_endOne_11 : decode cX12_endOne 11 = .ok (.aload_n 0, 1) := by decide +kernel
theorem dX12_endOne_12 : decode cX12_endOne 12 = .ok (.getfield 150, 3) := by decide +kernel
theorem dX12_endOne_15 : decode cX12_endOne 15 = .ok (.ifCond .eq 19, 3) := by decide +kernel
theorem dX12_endOne_18 : decode cX12_endOne 18 = .ok (.aload_n 0, 1) := by decide +kernel
theorem dX12_endOne_19 : decode cX12_endOne 19 = .ok (.getfield 29, 3) := by decide +kernel
theorem dX12_endOne_22 : decode cX12_endOne 22 = .ok (.aload_n 0, 1) := by decide +kernel
theorem dX12_endOne_23 : decode cX12_endOne 23 = .ok (.getfield 150, 3) := by decide +kernel
theorem dX12_endOne_26 : decode cX12_endOne 26 = .ok (.iconst 1, 1) := by decide +kernel
theorem dX12_endOne_27 : decode cX12_endOne 27 = .ok (.isub, 1) := by decide +kernel
theorem dX12_endOne_28 : decode cX12_endOne 28 = .ok (.iaload, 1) := by decide +kernel
theorem dX12_endOne_29 : decode cX12_endOne 29 = .ok (.bipush 41, 2) := by decide +kernel
theorem dX12_endOne_31 : decode cX12_endOne 31 = .ok (.if_icmp .eq 5, 3) := by decide +kernel
theorem dX12_endOne_34 : decode cX12_endOne 34 = .ok (.iconst 0, 1) := by decide +kernel
theorem dX12_endOne_35 : decode cX12_endOne 35 = .ok (.ireturn, 1) := by decide +kernel
theorem dX12_endOne_36 : decode cX12_endOne 36 = .ok (.aload_n 0, 1) := by decide +kernel
theorem dX12_endOne_37 : decode cX12_endOne 37 = .ok (.bipush 98, 2) := by decide +kernel
theorem dX12_endOne_39 : decode cX12_endOne 39 = .ok (.bipush 121, 2) := by decide +kernel
theorem dX12_endOne_41 : decode cX12_endOne 41 = .ok (.invokestatic 124, 3) := by decide +kernel
theorem dX12_endOne_44 : decode cX12_endOne 44 = .ok (.invokevirtual 185, 3) := by decide +kernel
theorem dX12_endOne_47 : decode cX12_endOne 47 = .ok (.ifCond .ne 5, 3) := by decide +kernel
theorem dX12_endOne_50 : decode cX12_endOne 50 = .ok (.iconst 1, 1) := by decide +kernel
theorem dX12_endOne_51 : decode cX12_endOne 51 = .ok (.ireturn, 1) := by decide +kernel
theorem dX12_endOne_52 : decode cX12_endOne 52 = .ok (.aload_n 0, 1) := by decide +kernel
theorem dX12_endOne_53 : decode cX12_endOne 53 = .ok (.invokevirtual 170, 3) := by decide +kernel
theorem dX12_endOne_56 : decode cX12_endOne 56 = .ok (.aload_n 0, 1) := by decide +kernel
theorem dX12_endOne_57 : decode cX12_endOne 57 = .ok (.getfield 29, 3) := by decide +kernel
theorem dX12_endOne_60 : decode cX12_endOne 60 = .ok (.aload_n 0, 1) := by decide +kernel
theorem dX12_endOne_61 : decode cX12_endOne 61 = .ok (.getfield 150, 3) := by decide +kernel
theorem dX12_endOne_64 : decode cX12_endOne 64 = .ok (.iconst 1, 1) := by decide +kernel
theorem dX12_endOne_65 : decode cX12_endOne 65 = .ok (.isub, 1) := by decide +kernel
theorem dX12_endOne_66 : decode cX12_endOne 66 = .ok (.iconst 4, 1) := by decide +kernel
theorem dX12_endOne_67 : decode cX12_endOne 67 = .ok (.iastore, 1) := by decide +kernel
theorem dX12_endOne_68 : decode cX12_endOne 68 = .ok (.aload_n 0, 1) := by decide +kernel
theorem dX12_endOne_69 : decode cX12_endOne 69 = .ok (.iconst 0, 1) := by decide +kernel
theorem dX12_endOne_70 : decode cX12_endOne 70 = .ok (.putfield 196, 3) := by decide +kernel
theorem dX12_endOne_73 : decode cX12_endOne 73 = .ok (.iconst 0, 1) := by decide +kernel
theorem dX12_endOne_74 : decode cX12_endOne 74 = .ok (.ireturn, 1) := by decide +kernel
theorem dX12_compareOf_0 : decode cX12_compareOf 0 = .ok (.aload_n 0, 1) := by decide +kernel
theorem dX12_compareOf_1 : decode cX12_compareOf 1 = .ok (.getfield 102, 3) := by decide +kernel
theorem dX12_compareOf_4 : decode cX12_compareOf 4 = .ok (.bipush 60, 2) := by decide +kernel
theorem dX12_compareOf_6 : decode cX12_compareOf 6 = .ok (.if_icmp .ne 8, 3) := by decide +kernel
theorem dX12_compareOf_9 : decode cX12_compareOf 9 = .ok (.bipush 10, 2) := by decide +kernel
theorem dX12_compareOf_11 : decode cX12_compareOf 11 = .ok (.goto 72, 3) := by decide +kernel
theorem dX12_compareOf_14 : decode cX12_compareOf 14 = .ok (.aload_n 0, 1) := by decide +kernel
theorem dX12_compareOf_15 : decode cX12_compareOf 15 = .ok (.getfield 102, 3) := by decide +kernel
theorem dX12_compareOf_18 : decode cX12_compareOf 18 = .ok (.iconst 4, 1) := by decide +kernel
theorem dX12_compareOf_19 : decode cX12_compareOf 19 = .ok (.if_icmp .ne 8, 3) := by decide +kernel
theorem dX12_compareOf_22 : decode cX12_compareOf 22 = .ok (.bipush 11, 2) := by decide +kernel
theorem dX12_compareOf_24 : decode cX12_compareOf 24 = .ok (.goto 59, 3) := by decide +kernel
theorem dX12_compareOf_27 : decode cX12_compareOf 27 = .ok (.aload_n 0, 1) := by decide +kernel
theorem dX12_compareOf_28 : decode cX12_compareOf 28 = .ok (.getfield 102, 3) := by decide +kernel
theorem dX12_compareOf_31 : decode cX12_compareOf 31 = .ok (.bipush 62, 2) := by decide +kernel
theorem dX12_compareOf_33 : decode cX12_compareOf 33 = .ok (.if_icmp .ne 8, 3) := by decide +kernel
theorem dX12_compareOf_36 : decode cX12_compareOf 36 = .ok (.bipush 12, 2) := by decide +kernel
theorem dX12_compareOf_38 : decode cX12_compareOf 38 = .ok (.goto 45, 3) := by decide +kernel
theorem dX12_compareOf_41 : decode cX12_compareOf 41 = .ok (.aload_n 0, 1) := by decide +kernel
theorem dX12_compareOf_42 : decode cX12_compareOf 42 = .ok (.getfield 102, 3) := by decide +kernel
theorem dX12_compareOf_45 : decode cX12_compareOf 45 = .ok (.iconst 5, 1) := by decide +kernel
theorem dX12_compareOf_46 : decode cX12_compareOf 46 = .ok (.if_icmp .ne 8, 3) := by decide +kernel
theorem dX12_compareOf_49 : decode cX12_compareOf 49 = .ok (.bipush 13, 2) := by decide +kernel
theorem dX12_compareOf_51 : decode cX12_compareOf 51 = .ok (.goto 32, 3) := by decide +kernel
theorem dX12_compareOf_54 : decode cX12_compareOf 54 = .ok (.aload_n 0, 1) := by decide +kernel
theorem dX12_compareOf_55 : decode cX12_compareOf 55 = .ok (.getfield 102, 3) := by decide +kernel
theorem dX12_compareOf_58 : decode cX12_compareOf 58 = .ok (.bipush 61, 2) := by decide +kernel
theorem dX12_compareOf_60 : decode cX12_compareOf 60 = .ok (.if_icmp .ne 8, 3) := by decide +kernel
theorem dX12_compareOf_63 : decode cX12_compareOf 63 = .ok (.bipush 14, 2) := by decide +kernel
theorem dX12_compareOf_65 : decode cX12_compareOf 65 = .ok (.goto 18, 3) := by decide +kernel
theorem dX12_compareOf_68 : decode cX12_compareOf 68 = .ok (.aload_n 0, 1) := by decide +kernel
theorem dX12_compareOf_69 : decode cX12_compareOf 69 = .ok (.getfield 102, 3) := by decide +kernel
theorem dX12_compareOf_72 : decode cX12_compareOf 72 = .ok (.bipush 35, 2) := by decide +kernel
theorem dX12_compareOf_74 : decode cX12_compareOf 74 = .ok (.if_icmp .ne 8, 3) := by decide +kernel
theorem dX12_compareOf_77 : decode cX12_compareOf 77 = .ok (.bipush 15, 2) := by decide +kernel
theorem dX12_compareOf_79 : decode cX12_compareOf 79 = .ok (.goto 4, 3) := by decide +kernel
theorem dX12_compareOf_82 : decode cX12_compareOf 82 = .ok (.iconst (-1), 1) := by decide +kernel
theorem dX12_compareOf_83 : decode cX12_compareOf 83 = .ok (.ireturn, 1) := by decide +kernel
theorem dX12_betweenOf_0 : decode cX12_betweenOf 0 = .ok (.aload_n 0, 1) := by decide +kernel
theorem dX12_betweenOf_1 : decode cX12_betweenOf 1 = .ok (.getfield 102, 3) := by decide +kernel
theorem dX12_betweenOf_4 : decode cX12_betweenOf 4 = .ok (.bipush 43, 2) := by decide +kernel
theorem dX12_betweenOf_6 : decode cX12_betweenOf 6 = .ok (.if_icmp .ne 6, 3) := by decide +kernel
theorem dX12_betweenOf_9 : decode cX12_betweenOf 9 = .ok (.bipush 6, 2) := by decide +kernel
theorem dX12_betweenOf_11 : decode cX12_betweenOf 11 = .ok (.ireturn, 1) := by decide +kernel
theorem dX12_betweenOf_12 : decode cX12_betweenOf 12 = .ok (.aload_n 0, 1) := by decide +kernel
theorem dX12_betweenOf_13 : decode cX12_betweenOf 13 = .ok (.getfield 102, 3) := by decide +kernel
theorem dX12_betweenOf_16 : decode cX12_betweenOf 16 = .ok (.bipush 45, 2) := by decide +kernel
theorem dX12_betweenOf_18 : decode cX12_betweenOf 18 = .ok (.if_icmp .ne 6, 3) := by decide +kernel
theorem dX12_betweenOf_21 : decode cX12_betweenOf 21 = .ok (.bipush 7, 2) := by decide +kernel
theorem dX12_betweenOf_23 : decode cX12_betweenOf 23 = .ok (.ireturn, 1) := by decide +kernel
theorem dX12_betweenOf_24 : decode cX12_betweenOf 24 = .ok (.aload_n 0, 1) := by decide +kernel
theorem dX12_betweenOf_25 : decode cX12_betweenOf 25 = .ok (.getfield 102, 3) := by decide +kernel
theorem dX12_betweenOf_28 : decode cX12_betweenOf 28 = .ok (.bipush 42, 2) := by decide +kernel
theorem dX12_betweenOf_30 : decode cX12_betweenOf 30 = .ok (.if_icmp .ne 6, 3) := by decide +kernel
theorem dX12_betweenOf_33 : decode cX12_betweenOf 33 = .ok (.bipush 8, 2) := by decide +kernel
theorem dX12_betweenOf_35 : decode cX12_betweenOf 35 = .ok (.ireturn, 1) := by decide +kernel
theorem dX12_betweenOf_36 : decode cX12_betweenOf 36 = .ok (.aload_n 0, 1) := by decide +kernel
theorem dX12_betweenOf_37 : decode cX12_betweenOf 37 = .ok (.getfield 102, 3) := by decide +kernel
theorem dX12_betweenOf_40 : decode cX12_betweenOf 40 = .ok (.bipush 47, 2) := by decide +kernel
theorem dX12_betweenOf_42 : decode cX12_betweenOf 42 = .ok (.if_icmp .ne 6, 3) := by decide +kernel
theorem dX12_betweenOf_45 : decode cX12_betweenOf 45 = .ok (.bipush 9, 2) := by decide +kernel
theorem dX12_betweenOf_47 : decode cX12_betweenOf 47 = .ok (.ireturn, 1) := by decide +kernel
theorem dX12_betweenOf_48 : decode cX12_betweenOf 48 = .ok (.aload_n 0, 1) := by decide +kernel
theorem dX12_betweenOf_49 : decode cX12_betweenOf 49 = .ok (.invokevirtual 167, 3) := by decide +kernel
theorem dX12_betweenOf_52 : decode cX12_betweenOf 52 = .ok (.bipush 42, 2) := by decide +kernel
theorem dX12_betweenOf_54 : decode cX12_betweenOf 54 = .ok (.if_icmp .eq 5, 3) := by decide +kernel
theorem dX12_betweenOf_57 : decode cX12_betweenOf 57 = .ok (.iconst (-1), 1) := by decide +kernel
theorem dX12_betweenOf_58 : decode cX12_betweenOf 58 = .ok (.ireturn, 1) := by decide +kernel
theorem dX12_betweenOf_59 : decode cX12_betweenOf 59 = .ok (.aload_n 0, 1) := by decide +kernel
theorem dX12_betweenOf_60 : decode cX12_betweenOf 60 = .ok (.invokevirtual 199, 3) := by decide +kernel
theorem dX12_betweenOf_63 : decode cX12_betweenOf 63 = .ok (.ifCond .ne 8, 3) := by decide +kernel
theorem dX12_betweenOf_66 : decode cX12_betweenOf 66 = .ok (.aload_n 0, 1) := by decide +kernel
theorem dX12_betweenOf_67 : decode cX12_betweenOf 67 = .ok (.invokevirtual 202, 3) := by decide +kernel
theorem dX12_betweenOf_70 : decode cX12_betweenOf 70 = .ok (.ireturn, 1) := by decide +kernel
theorem dX12_betweenOf_71 : decode cX12_betweenOf 71 = .ok (.aload_n 0, 1) := by decide +kernel
theorem dX12_betweenOf_72 : decode cX12_betweenOf 72 = .ok (.bipush 97, 2) := by decide +kernel
theorem dX12_betweenOf_74 : decode cX12_betweenOf 74 = .ok (.bipush 110, 2) := by decide +kernel
theorem dX12_betweenOf_76 : decode cX12_betweenOf 76 = .ok (.bipush 100, 2) := by decide +kernel
theorem dX12_betweenOf_78 : decode cX12_betweenOf 78 = .ok (.invokestatic 128, 3) := by decide +kernel
theorem dX12_betweenOf_81 : decode cX12_betweenOf 81 = .ok (.invokevirtual 185, 3) := by decide +kernel
theorem dX12_betweenOf_84 : decode cX12_betweenOf 84 = .ok (.ifCond .eq 8, 3) := by decide +kernel
theorem dX12_betweenOf_87 : decode cX12_betweenOf 87 = .ok (.bipush 21, 2) := by decide +kernel
theorem dX12_betweenOf_89 : decode cX12_betweenOf 89 = .ok (.goto 23, 3) := by decide +kernel
theorem dX12_betweenOf_92 : decode cX12_betweenOf 92 = .ok (.aload_n 0, 1) := by decide +kernel
theorem dX12_betweenOf_93 : decode cX12_betweenOf 93 = .ok (.bipush 111, 2) := by decide +kernel
theorem dX12_betweenOf_95 : decode cX12_betweenOf 95 = .ok (.bipush 114, 2) := by decide +kernel
theorem dX12_betweenOf_97 : decode cX12_betweenOf 97 = .ok (.invokestatic 124, 3) := by decide +kernel
theorem dX12_betweenOf_100 : decode cX12_betweenOf 100 = .ok (.invokevirtual 185, 3) := by decide +kernel
theorem dX12_betweenOf_103 : decode cX12_betweenOf 103 = .ok (.ifCond .eq 8, 3) := by decide +kernel
theorem dX12_betweenOf_106 : decode cX12_betweenOf 106 = .ok (.bipush 22, 2) := by decide +kernel
theorem dX12_betweenOf_108 : decode cX12_betweenOf 108 = .ok (.goto 4, 3) := by decide +kernel
theorem dX12_betweenOf_111 : decode cX12_betweenOf 111 = .ok (.iconst (-1), 1) := by decide +kernel
theorem dX12_betweenOf_112 : decode cX12_betweenOf 112 = .ok (.ireturn, 1) := by decide +kernel
theorem dX12_partOf_0 : decode cX12_partOf 0 = .ok (.iload_n 1, 1) := by decide +kernel
theorem dX12_partOf_1 : decode cX12_partOf 1 = .ok (.tableswitch 129 40 44 #[35, 129, 50, 82, 107], 35) := by decide +kernel
theorem dX12_partOf_36 : decode cX12_partOf 36 = .ok (.aload_n 0, 1) := by decide +kernel
theorem dX12_partOf_37 : decode cX12_partOf 37 = .ok (.getfield 102, 3) := by decide +kernel
theorem dX12_partOf_40 : decode cX12_partOf 40 = .ok (.bipush 41, 2) := by decide +kernel
theorem dX12_partOf_42 : decode cX12_partOf 42 = .ok (.if_icmp .ne 7, 3) := by decide +kernel
theorem dX12_partOf_45 : decode cX12_partOf 45 = .ok (.iconst 0, 1) := by decide +kernel
theorem dX12_partOf_46 : decode cX12_partOf 46 = .ok (.goto 4, 3) := by decide +kernel
theorem dX12_partOf_49 : decode cX12_partOf 49 = .ok (.iconst (-1), 1) := by decide +kernel
theorem dX12_partOf_50 : decode cX12_partOf 50 = .ok (.ireturn, 1) := by decide +kernel
theorem dX12_partOf_51 : decode cX12_partOf 51 = .ok (.aload_n 0, 1) := by decide +kernel
theorem dX12_partOf_52 : decode cX12_partOf 52 = .ok (.bipush 116, 2) := by decide +kernel
theorem dX12_partOf_54 : decode cX12_partOf 54 = .ok (.bipush 104, 2) := by decide +kernel
theorem dX12_partOf_56 : decode cX12_partOf 56 = .ok (.bipush 101, 2) := by decide +kernel
theorem dX12_partOf_58 : decode cX12_partOf 58 = .ok (.bipush 110, 2) := by decide +kernel
theorem dX12_partOf_60 : decode cX12_partOf 60 = .ok (.invokestatic 132, 3) := by decide +kernel
theorem dX12_partOf_63 : decode cX12_partOf 63 = .ok (.invokevirtual 185, 3) := by decide +kernel
theorem dX12_partOf_66 : decode cX12_partOf 66 = .ok (.ifCond .eq 15, 3) := by decide +kernel
theorem dX12_partOf_69 : decode cX12_partOf 69 = .ok (.aload_n 0, 1) := by decide +kernel
theorem dX12_partOf_70 : decode cX12_partOf 70 = .ok (.invokevirtual 199, 3) := by decide +kernel
theorem dX12_partOf_73 : decode cX12_partOf 73 = .ok (.ifCond .eq 8, 3) := by decide +kernel
theorem dX12_partOf_76 : decode cX12_partOf 76 = .ok (.bipush 43, 2) := by decide +kernel
theorem dX12_partOf_78 : decode cX12_partOf 78 = .ok (.goto 4, 3) := by decide +kernel
theorem dX12_partOf_81 : decode cX12_partOf 81 = .ok (.iconst (-1), 1) := by decide +kernel
theorem dX12_partOf_82 : decode cX12_partOf 82 = .ok (.ireturn, 1) := by decide +kernel
theorem dX12_partOf_83 : decode cX12_partOf 83 = .ok (.aload_n 0, 1) := by decide +kernel
theorem dX12_partOf_84 : decode cX12_partOf 84 = .ok (.bipush 101, 2) := by decide +kernel
theorem dX12_partOf_86 : decode cX12_partOf 86 = .ok (.bipush 108, 2) := by decide +kernel
theorem dX12_partOf_88 : decode cX12_partOf 88 = .ok (.bipush 115, 2) := by decide +kernel
theorem dX12_partOf_90 : decode cX12_partOf 90 = .ok (.bipush 101, 2) := by decide +kernel
theorem dX12_partOf_92 : decode cX12_partOf 92 = .ok (.invokestatic 132, 3) := by decide +kernel
theorem dX12_partOf_95 : decode cX12_partOf 95 = .ok (.invokevirtual 185, 3) := by decide +kernel
theorem dX12_partOf_98 : decode cX12_partOf 98 = .ok (.ifCond .eq 8, 3) := by decide +kernel
theorem dX12_partOf_101 : decode cX12_partOf 101 = .ok (.bipush 44, 2) := by decide +kernel
theorem dX12_partOf_103 : decode cX12_partOf 103 = .ok (.goto 4, 3) := by decide +kernel
theorem dX12_partOf_106 : decode cX12_partOf 106 = .ok (.iconst (-1), 1) := by decide +kernel
theorem dX12_partOf_107 : decode cX12_partOf 107 = .ok (.ireturn, 1) := by decide +kernel
theorem dX12_partOf_108 : decode cX12_partOf 108 = .ok (.aload_n 0, 1) := by decide +kernel
theorem dX12_partOf_109 : decode cX12_partOf 109 = .ok (.bipush 101, 2) := by decide +kernel
theorem dX12_partOf_111 : decode cX12_partOf 111 = .ok (.bipush 110, 2) := by decide +kernel
theorem dX12_partOf_113 : decode cX12_partOf 113 = .ok (.bipush 100, 2) := by decide +kernel
theorem dX12_partOf_115 : decode cX12_partOf 115 = .ok (.invokestatic 128, 3) := by decide +kernel
theorem dX12_partOf_118 : decode cX12_partOf 118 = .ok (.invokevirtual 185, 3) := by decide +kernel
theorem dX12_partOf_121 : decode cX12_partOf 121 = .ok (.ifCond .eq 7, 3) := by decide +kernel
theorem dX12_partOf_124 : decode cX12_partOf 124 = .ok (.iconst 0, 1) := by decide +kernel
theorem dX12_partOf_125 : decode cX12_partOf 125 = .ok (.goto 4, 3) := by decide +kernel
theorem dX12_partOf_128 : decode cX12_partOf 128 = .ok (.iconst (-1), 1) := by decide +kernel
theorem dX12_partOf_129 : decode cX12_partOf 129 = .ok (.ireturn, 1) := by decide +kernel
theorem dX12_partOf_130 : decode cX12_partOf 130 = .ok (.iconst (-1), 1) := by decide +kernel
theorem dX12_partOf_131 : decode cX12_partOf 131 = .ok (.ireturn, 1) := by decide +kernel
theorem dX12_behindOne_0 : decode cX12_behindOne 0 = .ok (.aload_n 0, 1) := by decide +kernel
theorem dX12_behindOne_1 : decode cX12_behindOne 1 = .ok (.invokevirtual 205, 3) := by decide +kernel
theorem dX12_behindOne_4 : decode cX12_behindOne 4 = .ok (.istore_n 1, 1) := by decide +kernel
theorem dX12_behindOne_5 : decode cX12_behindOne 5 = .ok (.iload_n 1, 1) := by decide +kernel
theorem dX12_behindOne_6 : decode cX12_behindOne 6 = .ok (.ifCond .lt 54, 3) := by decide +kernel
theorem dX12_behindOne_9 : decode cX12_behindOne 9 = .ok (.aload_n 0, 1) := by decide +kernel
theorem dX12_behindOne_10 : decode cX12_behindOne 10 = .ok (.iload_n 1, 1) := by decide +kernel
theorem dX12_behindOne_11 : decode cX12_behindOne 11 = .ok (.invokestatic 153, 3) := by decide +kernel
theorem dX12_behindOne_14 : decode cX12_behindOne 14 = .ok (.iconst 4, 1) := by decide +kernel
theorem dX12_behindOne_15 : decode cX12_behindOne 15 = .ok (.if_icmp .ne 7, 3) := by decide +kernel
theorem dX12_behindOne_18 : decode cX12_behindOne 18 = .ok (.iconst 5, 1) := by decide +kernel
theorem dX12_behindOne_19 : decode cX12_behindOne 19 = .ok (.goto 7, 3) := by decide +kernel
theorem dX12_behindOne_22 : decode cX12_behindOne 22 = .ok (.iload_n 1, 1) := by decide +kernel
theorem dX12_behindOne_23 : decode cX12_behindOne 23 = .ok (.invokestatic 153, 3) := by decide +kernel
theorem dX12_behindOne_26 : decode cX12_behindOne 26 = .ok (.invokevirtual 193, 3) := by decide +kernel
theorem dX12_behindOne_29 : decode cX12_behindOne 29 = .ok (.aload_n 0, 1) := by decide +kernel
theorem dX12_behindOne_30 : decode cX12_behindOne 30 = .ok (.getfield 29, 3) := by decide +kernel
theorem dX12_behindOne_33 : decode cX12_behindOne 33 = .ok (.aload_n 0, 1) := by decide +kernel
theorem dX12_behindOne_34 : decode cX12_behindOne 34 = .ok (.getfield 150, 3) := by decide +kernel
theorem dX12_behindOne_37 : decode cX12_behindOne 37 = .ok (.iload_n 1, 1) := by decide +kernel
theorem dX12_behindOne_38 : decode cX12_behindOne 38 = .ok (.iastore, 1) := by decide +kernel
theorem dX12_behindOne_39 : decode cX12_behindOne 39 = .ok (.aload_n 0, 1) := by decide +kernel
theorem dX12_behindOne_40 : decode cX12_behindOne 40 = .ok (.dup, 1) := by decide +kernel
theorem dX12_behindOne_41 : decode cX12_behindOne 41 = .ok (.getfield 150, 3) := by decide +kernel
theorem dX12_behindOne_44 : decode cX12_behindOne 44 = .ok (.iconst 1, 1) := by decide +kernel
theorem dX12_behindOne_45 : decode cX12_behindOne 45 = .ok (.iadd, 1) := by decide +kernel
theorem dX12_behindOne_46 : decode cX12_behindOne 46 = .ok (.putfield 150, 3) := by decide +kernel
theorem dX12_behindOne_49 : decode cX12_behindOne 49 = .ok (.aload_n 0, 1) := by decide +kernel
theorem dX12_behindOne_50 : decode cX12_behindOne 50 = .ok (.iconst 0, 1) := by decide +kernel
theorem dX12_behindOne_51 : decode cX12_behindOne 51 = .ok (.putfield 196, 3) := by decide +kernel
theorem dX12_behindOne_54 : decode cX12_behindOne 54 = .ok (.aload_n 0, 1) := by decide +kernel
theorem dX12_behindOne_55 : decode cX12_behindOne 55 = .ok (.invokevirtual 170, 3) := by decide +kernel
theorem dX12_behindOne_58 : decode cX12_behindOne 58 = .ok (.iconst 0, 1) := by decide +kernel
theorem dX12_behindOne_59 : decode cX12_behindOne 59 = .ok (.ireturn, 1) := by decide +kernel
theorem dX12_behindOne_60 : decode cX12_behindOne 60 = .ok (.aload_n 0, 1) := by decide +kernel
theorem dX12_behindOne_61 : decode cX12_behindOne 61 = .ok (.invokevirtual 167, 3) := by decide +kernel
theorem dX12_behindOne_64 : decode cX12_behindOne 64 = .ok (.istore_n 2, 1) := by decide +kernel
theorem dX12_behindOne_65 : decode cX12_behindOne 65 = .ok (.aload_n 0, 1) := by decide +kernel
theorem dX12_behindOne_66 : decode cX12_behindOne 66 = .ok (.iload_n 2, 1) := by decide +kernel
theorem dX12_behindOne_67 : decode cX12_behindOne 67 = .ok (.invokevirtual 208, 3) := by decide +kernel
theorem dX12_behindOne_70 : decode cX12_behindOne 70 = .ok (.istore_n 3, 1) := by decide +kernel
theorem dX12_behindOne_71 : decode cX12_behindOne 71 = .ok (.iload_n 3, 1) := by decide +kernel
theorem dX12_behindOne_72 : decode cX12_behindOne 72 = .ok (.ifCond .ge 5, 3) := by decide +kernel
theorem dX12_behindOne_75 : decode cX12_behindOne 75 = .ok (.iconst (-1), 1) := by decide +kernel
theorem dX12_behindOne_76 : decode cX12_behindOne 76 = .ok (.ireturn, 1) := by decide +kernel
theorem dX12_behindOne_77 : decode cX12_behindOne 77 = .ok (.aload_n 0, 1) := by decide +kernel
theorem dX12_behindOne_78 : decode cX12_behindOne 78 = .ok (.iconst 1, 1) := by decide +kernel
theorem dX12_behindOne_79 : decode cX12_behindOne 79 = .ok (.invokevirtual 193, 3) := by decide +kernel
theorem dX12_behindOne_82 : decode cX12_behindOne 82 = .ok (.aload_n 0, 1) := by decide +kernel
theorem dX12_behindOne_83 : decode cX12_behindOne 83 = .ok (.invokevirtual 170, 3) := by decide +kernel
theorem dX12_behindOne_86 : decode cX12_behindOne 86 = .ok (.iload_n 3, 1) := by decide +kernel
theorem dX12_behindOne_87 : decode cX12_behindOne 87 = .ok (.ifCond .ne 40, 3) := by decide +kernel
theorem dX12_behindOne_90 : decode cX12_behindOne 90 = .ok (.aload_n 0, 1) := by decide +kernel
theorem dX12_behindOne_91 : decode cX12_behindOne 91 = .ok (.dup, 1) := by decide +kernel
theorem dX12_behindOne_92 : decode cX12_behindOne 92 = .ok (.getfield 160, 3) := by decide +kernel
theorem dX12_behindOne_95 : decode cX12_behindOne 95 = .ok (.iconst 1, 1) := by decide +kernel
theorem dX12_behindOne_96 : decode cX12_behindOne 96 = .ok (.isub, 1) := by decide +kernel
theorem dX12_behindOne_97 : decode cX12_behindOne 97 = .ok (.putfield 160, 3) := by decide +kernel
theorem dX12_behindOne_100 : decode cX12_behindOne 100 = .ok (.aload_n 0, 1) := by decide +kernel
theorem dX12_behindOne_101 : decode cX12_behindOne 101 = .ok (.dup, 1) := by decide +kernel
theorem dX12_behindOne_102 : decode cX12_behindOne 102 = .ok (.getfield 150, 3) := by decide +kernel
theorem dX12_behindOne_105 : decode cX12_behindOne 105 = .ok (.iconst 1, 1) := by decide +kernel
theorem dX12_behindOne_106 : decode cX12_behindOne 106 = .ok (.isub, 1) := by decide +kernel
theorem dX12_behindOne_107 : decode cX12_behindOne 107 = .ok (.putfield 150, 3) := by decide +kernel
theorem dX12_behindOne_110 : decode cX12_behindOne 110 = .ok (.iload_n 2, 1) := by decide +kernel
theorem dX12_behindOne_111 : decode cX12_behindOne 111 = .ok (.bipush 44, 2) := by decide +kernel
theorem dX12_behindOne_113 : decode cX12_behindOne 113 = .ok (.if_icmp .ne 9, 3) := by decide +kernel
theorem dX12_behindOne_116 : decode cX12_behindOne 116 = .ok (.aload_n 0, 1) := by decide +kernel
theorem dX12_behindOne_117 : decode cX12_behindOne 117 = .ok (.iconst 3, 1) := by decide +kernel
theorem dX12_behindOne_118 : decode cX12_behindOne 118 = .ok (.iconst 0, 1) := by decide +kernel
theorem dX12_behindOne_119 : decode cX12_behindOne 119 = .ok (.invokevirtual 156, 3) := by decide +kernel
theorem dX12_behindOne_122 : decode cX12_behindOne 122 = .ok (.aload_n 0, 1) := by decide +kernel
theorem dX12_behindOne_123 : decode cX12_behindOne 123 = .ok (.invokevirtual 179, 3) := by decide +kernel
theorem dX12_behindOne_126 : decode cX12_behindOne 126 = .ok (.ireturn, 1) := by decide +kernel
theorem dX12_behindOne_127 : decode cX12_behindOne 127 = .ok (.aload_n 0, 1) := by decide +kernel
theorem dX12_behindOne_128 : decode cX12_behindOne 128 = .ok (.getfield 29, 3) := by decide +kernel
theorem dX12_behindOne_131 : decode cX12_behindOne 131 = .ok (.aload_n 0, 1) := by decide +kernel
theorem dX12_behindOne_132 : decode cX12_behindOne 132 = .ok (.invokevirtual 163, 3) := by decide +kernel
theorem dX12_behindOne_135 : decode cX12_behindOne 135 = .ok (.iload_n 3, 1) := by decide +kernel
theorem dX12_behindOne_136 : decode cX12_behindOne 136 = .ok (.iastore, 1) := by decide +kernel
theorem dX12_behindOne_137 : decode cX12_behindOne 137 = .ok (.aload_n 0, 1) := by decide +kernel
theorem dX12_behindOne_138 : decode cX12_behindOne 138 = .ok (.iconst 0, 1) := by decide +kernel
theorem dX12_behindOne_139 : decode cX12_behindOne 139 = .ok (.putfield 196, 3) := by decide +kernel
theorem dX12_behindOne_142 : decode cX12_behindOne 142 = .ok (.iconst 0, 1) := by decide +kernel
theorem dX12_behindOne_143 : decode cX12_behindOne 143 = .ok (.ireturn, 1) := by decide +kernel
theorem dX12_summed_0 : decode cX12_summed 0 = .ok (.aload_n 0, 1) := by decide +kernel
theorem dX12_summed_1 : decode cX12_summed 1 = .ok (.iconst 0, 1) := by decide +kernel
theorem dX12_summed_2 : decode cX12_summed 2 = .ok (.putfield 150, 3) := by decide +kernel
theorem dX12_summed_5 : decode cX12_summed 5 = .ok (.aload_n 0, 1) := by decide +kernel
theorem dX12_summed_6 : decode cX12_summed 6 = .ok (.iconst 0, 1) := by decide +kernel
theorem dX12_summed_7 : decode cX12_summed 7 = .ok (.putfield 160, 3) := by decide +kernel
theorem dX12_summed_10 : decode cX12_summed 10 = .ok (.aload_n 0, 1) := by decide +kernel
theorem dX12_summed_11 : decode cX12_summed 11 = .ok (.iconst 0, 1) := by decide +kernel
theorem dX12_summed_12 : decode cX12_summed 12 = .ok (.putfield 196, 3) := by decide +kernel
theorem dX12_summed_15 : decode cX12_summed 15 = .ok (.aload_n 0, 1) := by decide +kernel
theorem dX12_summed_16 : decode cX12_summed 16 = .ok (.getfield 196, 3) := by decide +kernel
theorem dX12_summed_19 : decode cX12_summed 19 = .ok (.ifCond .eq 10, 3) := by decide +kernel
theorem dX12_summed_22 : decode cX12_summed 22 = .ok (.aload_n 0, 1) := by decide +kernel
theorem dX12_summed_23 : decode cX12_summed 23 = .ok (.invokevirtual 211, 3) := by decide +kernel
theorem dX12_summed_26 : decode cX12_summed 26 = .ok (.goto 7, 3) := by decide +kernel
theorem dX12_summed_29 : decode cX12_summed 29 = .ok (.aload_n 0, 1) := by decide +kernel
theorem dX12_summed_30 : decode cX12_summed 30 = .ok (.invokevirtual 214, 3) := by decide +kernel
theorem dX12_summed_33 : decode cX12_summed 33 = .ok (.istore_n 1, 1) := by decide +kernel
theorem dX12_summed_34 : decode cX12_summed 34 = .ok (.iload_n 1, 1) := by decide +kernel
theorem dX12_summed_35 : decode cX12_summed 35 = .ok (.ifCond .le 5, 3) := by decide +kernel
theorem dX12_summed_38 : decode cX12_summed 38 = .ok (.iload_n 1, 1) := by decide +kernel
theorem dX12_summed_39 : decode cX12_summed 39 = .ok (.ireturn, 1) := by decide +kernel
theorem dX12_summed_40 : decode cX12_summed 40 = .ok (.iload_n 1, 1) := by decide +kernel
theorem dX12_summed_41 : decode cX12_summed 41 = .ok (.ifCond .ne 6, 3) := by decide +kernel
theorem dX12_summed_44 : decode cX12_summed 44 = .ok (.goto (-29), 3) := by decide +kernel
theorem dX12_summed_47 : decode cX12_summed 47 = .ok (.aload_n 0, 1) := by decide +kernel
theorem dX12_summed_48 : decode cX12_summed 48 = .ok (.invokevirtual 167, 3) := by decide +kernel
theorem dX12_summed_51 : decode cX12_summed 51 = .ok (.ifCond .lt 5, 3) := by decide +kernel
theorem dX12_summed_54 : decode cX12_summed 54 = .ok (.iconst 1, 1) := by decide +kernel
theorem dX12_summed_55 : decode cX12_summed 55 = .ok (.ireturn, 1) := by decide +kernel
theorem dX12_summed_56 : decode cX12_summed 56 = .ok (.aload_n 0, 1) := by decide +kernel
theorem dX12_summed_57 : decode cX12_summed 57 = .ok (.iconst 1, 1) := by decide +kernel
theorem dX12_summed_58 : decode cX12_summed 58 = .ok (.invokevirtual 193, 3) := by decide +kernel
theorem dX12_summed_61 : decode cX12_summed 61 = .ok (.iconst 0, 1) := by decide +kernel
theorem dX12_summed_62 : decode cX12_summed 62 = .ok (.ireturn, 1) := by decide +kernel
theorem dX12_figure_0 : decode cX12_figure 0 = .ok (.aload_n 0, 1) := by decide +kernel
theorem dX12_figure_1 : decode cX12_figure 1 = .ok (.getfield 102, 3) := by decide +kernel
theorem dX12_figure_4 : decode cX12_figure 4 = .ok (.iconst 1, 1) := by decide +kernel
theorem dX12_figure_5 : decode cX12_figure 5 = .ok (.if_icmp .eq 5, 3) := by decide +kernel
theorem dX12_figure_8 : decode cX12_figure 8 = .ok (.iconst 1, 1) := by decide +kernel
theorem dX12_figure_9 : decode cX12_figure 9 = .ok (.ireturn, 1) := by decide +kernel
theorem dX12_figure_10 : decode cX12_figure 10 = .ok (.aload_n 0, 1) := by decide +kernel
theorem dX12_figure_11 : decode cX12_figure 11 = .ok (.getfield 108, 3) := by decide +kernel
theorem dX12_figure_14 : decode cX12_figure 14 = .ok (.iload_n 2, 1) := by decide +kernel
theorem dX12_figure_15 : decode cX12_figure 15 = .ok (.iload_n 3, 1) := by decide +kernel
theorem dX12_figure_16 : decode cX12_figure 16 = .ok (.invokestatic 60, 3) := by decide +kernel
theorem dX12_figure_19 : decode cX12_figure 19 = .ok (.ifCond .ne 5, 3) := by decide +kernel
theorem dX12_figure_22 : decode cX12_figure 22 = .ok (.iconst 2, 1) := by decide +kernel
theorem dX12_figure_23 : decode cX12_figure 23 = .ok (.ireturn, 1) := by decide +kernel
theorem dX12_figure_24 : decode cX12_figure 24 = .ok (.aload_n 0, 1) := by decide +kernel
theorem dX12_figure_25 : decode cX12_figure 25 = .ok (.getfield 16, 3) := by decide +kernel
theorem dX12_figure_28 : decode cX12_figure 28 = .ok (.iload_n 1, 1) := by decide +kernel
theorem dX12_figure_29 : decode cX12_figure 29 = .ok (.aload_n 0, 1) := by decide +kernel
theorem dX12_figure_30 : decode cX12_figure 30 = .ok (.getfield 108, 3) := by decide +kernel
theorem dX12_figure_33 : decode cX12_figure 33 = .ok (.iastore, 1) := by decide +kernel
theorem dX12_figure_34 : decode cX12_figure 34 = .ok (.aload_n 0, 1) := by decide +kernel
theorem dX12_figure_35 : decode cX12_figure 35 = .ok (.invokevirtual 170, 3) := by decide +kernel
theorem dX12_figure_38 : decode cX12_figure 38 = .ok (.iconst 0, 1) := by decide +kernel
theorem dX12_figure_39 : decode cX12_figure 39 = .ok (.ireturn, 1) := by decide +kernel
theorem dX12_worded_0 : decode cX12_worded 0 = .ok (.aload_n 0, 1) := by decide +kernel
theorem dX12_worded_1 : decode cX12_worded 1 = .ok (.lload_n 1, 1) := by decide +kernel
theorem dX12_worded_2 : decode cX12_worded 2 = .ok (.invokevirtual 185, 3) := by decide +kernel
theorem dX12_worded_5 : decode cX12_worded 5 = .ok (.ifCond .ne 5, 3) := by decide +kernel
theorem dX12_worded_8 : decode cX12_worded 8 = .ok (.iconst 1, 1) := by decide +kernel
theorem dX12_worded_9 : decode cX12_worded 9 = .ok (.ireturn, 1) := by decide +kernel
theorem dX12_worded_10 : decode cX12_worded 10 = .ok (.aload_n 0, 1) := by decide +kernel
theorem dX12_worded_11 : decode cX12_worded 11 = .ok (.invokevirtual 170, 3) := by decide +kernel
theorem dX12_worded_14 : decode cX12_worded 14 = .ok (.aload_n 0, 1) := by decide +kernel
theorem dX12_worded_15 : decode cX12_worded 15 = .ok (.iload_n 3, 1) := by decide +kernel
theorem dX12_worded_16 : decode cX12_worded 16 = .ok (.iload 4, 2) := by decide +kernel
theorem dX12_worded_18 : decode cX12_worded 18 = .ok (.iload 5, 2) := by decide +kernel
theorem dX12_worded_20 : decode cX12_worded 20 = .ok (.invokevirtual 217, 3) := by decide +kernel
theorem dX12_worded_23 : decode cX12_worded 23 = .ok (.ireturn, 1) := by decide +kernel
theorem dX12_lawClause_0 : decode cX12_lawClause 0 = .ok (.aload_n 0, 1) := by decide +kernel
theorem dX12_lawClause_1 : decode cX12_lawClause 1 = .ok (.getfield 16, 3) := by decide +kernel
theorem dX12_lawClause_4 : decode cX12_lawClause 4 = .ok (.iload_n 1, 1) := by decide +kernel
theorem dX12_lawClause_5 : decode cX12_lawClause 5 = .ok (.iconst 1, 1) := by decide +kernel
theorem dX12_lawClause_6 : decode cX12_lawClause 6 = .ok (.iadd, 1) := by decide +kernel
theorem dX12_lawClause_7 : decode cX12_lawClause 7 = .ok (.aload_n 0, 1) := by decide +kernel
theorem dX12_lawClause_8 : decode cX12_lawClause 8 = .ok (.getfield 143, 3) := by decide +kernel
theorem dX12_lawClause_11 : decode cX12_lawClause 11 = .ok (.iastore, 1) := by decide +kernel
theorem dX12_lawClause_12 : decode cX12_lawClause 12 = .ok (.aload_n 0, 1) := by decide +kernel
theorem dX12_lawClause_13 : decode cX12_lawClause 13 = .ok (.invokevirtual 221, 3) := by decide +kernel
theorem dX12_lawClause_16 : decode cX12_lawClause 16 = .ok (.istore_n 2, 1) := by decide +kernel
theorem dX12_lawClause_17 : decode cX12_lawClause 17 = .ok (.aload_n 0, 1) := by decide +kernel
theorem dX12_lawClause_18 : decode cX12_lawClause 18 = .ok (.getfield 16, 3) := by decide +kernel
theorem dX12_lawClause_21 : decode cX12_lawClause 21 = .ok (.iload_n 1, 1) := by decide +kernel
theorem dX12_lawClause_22 : decode cX12_lawClause 22 = .ok (.iconst 2, 1) := by decide +kernel
theorem dX12_lawClause_23 : decode cX12_lawClause 23 = .ok (.iadd, 1) := by decide +kernel
theorem dX12_lawClause_24 : decode cX12_lawClause 24 = .ok (.aload_n 0, 1) := by decide +kernel
theorem dX12_lawClause_25 : decode cX12_lawClause 25 = .ok (.getfield 143, 3) := by decide +kernel
theorem dX12_lawClause_28 : decode cX12_lawClause 28 = .ok (.iastore, 1) := by decide +kernel
theorem dX12_lawClause_29 : decode cX12_lawClause 29 = .ok (.iload_n 2, 1) := by decide +kernel
theorem dX12_lawClause_30 : decode cX12_lawClause 30 = .ok (.ireturn, 1) := by decide +kernel
theorem dX12_lotClause_0 : decode cX12_lotClause 0 = .ok (.aload_n 0, 1) := by decide +kernel
theorem dX12_lotClause_1 : decode cX12_lotClause 1 = .ok (.iload_n 1, 1) := by decide +kernel
theorem dX12_lotClause_2 : decode cX12_lotClause 2 = .ok (.iconst 1, 1) := by decide +kernel
theorem dX12_lotClause_3 : decode cX12_lotClause 3 = .ok (.iadd, 1) := by decide +kernel
theorem dX12_lotClause_4 : decode cX12_lotClause 4 = .ok (.iconst 0, 1) := by decide +kernel
theorem dX12_lotClause_5 : decode cX12_lotClause 5 = .ok (.iconst 5, 1) := by decide +kernel
theorem dX12_lotClause_6 : decode cX12_lotClause 6 = .ok (.invokevirtual 217, 3) := by decide +kernel
theorem dX12_lotClause_9 : decode cX12_lotClause 9 = .ok (.istore_n 2, 1) := by decide +kernel
theorem dX12_lotClause_10 : decode cX12_lotClause 10 = .ok (.iload_n 2, 1) := by decide +kernel
theorem dX12_lotClause_11 : decode cX12_lotClause 11 = .ok (.ifCond .ne 27, 3) := by decide +kernel
theorem dX12_lotClause_14 : decode cX12_lotClause 14 = .ok (.aload_n 0, 1) := by decide +kernel
theorem dX12_lotClause_15 : decode cX12_lotClause 15 = .ok (.bipush 119, 2) := by decide +kernel
theorem dX12_lotClause_17 : decode cX12_lotClause 17 = .ok (.bipush 111, 2) := by decide +kernel
theorem dX12_lotClause_19 : decode cX12_lotClause 19 = .ok (.bipush 114, 2) := by decide +kernel
theorem dX12_lotClause_21 : decode cX12_lotClause 21 = .ok (.bipush 116, 2) := by decide +kernel
theorem dX12_lotClause_23 : decode cX12_lotClause 23 = .ok (.bipush 104, 2) := by decide +kernel
theorem dX12_lotClause_25 : decode cX12_lotClause 25 = .ok (.invokestatic 136, 3) := by decide +kernel
theorem dX12_lotClause_28 : decode cX12_lotClause 28 = .ok (.iload_n 1, 1) := by decide +kernel
theorem dX12_lotClause_29 : decode cX12_lotClause 29 = .ok (.iconst 2, 1) := by decide +kernel
theorem dX12_lotClause_30 : decode cX12_lotClause 30 = .ok (.iadd, 1) := by decide +kernel
theorem dX12_lotClause_31 : decode cX12_lotClause 31 = .ok (.iconst 0, 1) := by decide +kernel
theorem dX12_lotClause_32 : decode cX12_lotClause 32 = .ok (.bipush 99, 2) := by decide +kernel
theorem dX12_lotClause_34 : decode cX12_lotClause 34 = .ok (.invokevirtual 224, 3) := by decide +kernel
theorem dX12_lotClause_37 : decode cX12_lotClause 37 = .ok (.istore_n 2, 1) := by decide +kernel
theorem dX12_lotClause_38 : decode cX12_lotClause 38 = .ok (.iload_n 2, 1) := by decide +kernel
theorem dX12_lotClause_39 : decode cX12_lotClause 39 = .ok (.ifCond .eq 7, 3) := by decide +kernel
theorem dX12_lotClause_42 : decode cX12_lotClause 42 = .ok (.iload_n 2, 1) := by decide +kernel
theorem dX12_lotClause_43 : decode cX12_lotClause 43 = .ok (.goto 28, 3) := by decide +kernel
theorem dX12_lotClause_46 : decode cX12_lotClause 46 = .ok (.aload_n 0, 1) := by decide +kernel
theorem dX12_lotClause_47 : decode cX12_lotClause 47 = .ok (.bipush 119, 2) := by decide +kernel
theorem dX12_lotClause_49 : decode cX12_lotClause 49 = .ok (.bipush 101, 2) := by decide +kernel
theorem dX12_lotClause_51 : decode cX12_lotClause 51 = .ok (.bipush 105, 2) := by decide +kernel
theorem dX12_lotClause_53 : decode cX12_lotClause 53 = .ok (.bipush 103, 2) := by decide +kernel
theorem dX12_lotClause_55 : decode cX12_lotClause 55 = .ok (.bipush 104, 2) := by decide +kernel
theorem dX12_lotClause_57 : decode cX12_lotClause 57 = .ok (.bipush 116, 2) := by decide +kernel
theorem dX12_lotClause_59 : decode cX12_lotClause 59 = .ok (.invokestatic 146, 3) := by decide +kernel
theorem dX12_lotClause_62 : decode cX12_lotClause 62 = .ok (.iload_n 1, 1) := by decide +kernel
theorem dX12_lotClause_63 : decode cX12_lotClause 63 = .ok (.iconst 3, 1) := by decide +kernel
theorem dX12_lotClause_64 : decode cX12_lotClause 64 = .ok (.iadd, 1) := by decide +kernel
theorem dX12_lotClause_65 : decode cX12_lotClause 65 = .ok (.iconst 1, 1) := by decide +kernel
theorem dX12_lotClause_66 : decode cX12_lotClause 66 = .ok (.bipush 9, 2) := by decide +kernel
theorem dX12_lotClause_68 : decode cX12_lotClause 68 = .ok (.invokevirtual 224, 3) := by decide +kernel
theorem dX12_lotClause_71 : decode cX12_lotClause 71 = .ok (.ireturn, 1) := by decide +kernel
theorem dX12_wantClause_0 : decode cX12_wantClause 0 = .ok (.aload_n 0, 1) := by decide +kernel
theorem dX12_wantClause_1 : decode cX12_wantClause 1 = .ok (.iload_n 1, 1) := by decide +kernel
theorem dX12_wantClause_2 : decode cX12_wantClause 2 = .ok (.iconst 1, 1) := by decide +kernel
theorem dX12_wantClause_3 : decode cX12_wantClause 3 = .ok (.iadd, 1) := by decide +kernel
theorem dX12_wantClause_4 : decode cX12_wantClause 4 = .ok (.iconst 0, 1) := by decide +kernel
theorem dX12_wantClause_5 : decode cX12_wantClause 5 = .ok (.bipush 99, 2) := by decide +kernel
theorem dX12_wantClause_7 : decode cX12_wantClause 7 = .ok (.invokevirtual 217, 3) := by decide +kernel
theorem dX12_wantClause_10 : decode cX12_wantClause 10 = .ok (.istore_n 2, 1) := by decide +kernel
theorem dX12_wantClause_11 : decode cX12_wantClause 11 = .ok (.iload_n 2, 1) := by decide +kernel
theorem dX12_wantClause_12 : decode cX12_wantClause 12 = .ok (.ifCond .ne 21, 3) := by decide +kernel
theorem dX12_wantClause_15 : decode cX12_wantClause 15 = .ok (.aload_n 0, 1) := by decide +kernel
theorem dX12_wantClause_16 : decode cX12_wantClause 16 = .ok (.bipush 111, 2) := by decide +kernel
theorem dX12_wantClause_18 : decode cX12_wantClause 18 = .ok (.bipush 102, 2) := by decide +kernel
theorem dX12_wantClause_20 : decode cX12_wantClause 20 = .ok (.invokestatic 124, 3) := by decide +kernel
theorem dX12_wantClause_23 : decode cX12_wantClause 23 = .ok (.iload_n 1, 1) := by decide +kernel
theorem dX12_wantClause_24 : decode cX12_wantClause 24 = .ok (.iconst 2, 1) := by decide +kernel
theorem dX12_wantClause_25 : decode cX12_wantClause 25 = .ok (.iadd, 1) := by decide +kernel
theorem dX12_wantClause_26 : decode cX12_wantClause 26 = .ok (.iconst 0, 1) := by decide +kernel
theorem dX12_wantClause_27 : decode cX12_wantClause 27 = .ok (.bipush 11, 2) := by decide +kernel
theorem dX12_wantClause_29 : decode cX12_wantClause 29 = .ok (.invokevirtual 224, 3) := by decide +kernel
theorem dX12_wantClause_32 : decode cX12_wantClause 32 = .ok (.istore_n 2, 1) := by decide +kernel
theorem dX12_wantClause_33 : decode cX12_wantClause 33 = .ok (.iload_n 2, 1) := by decide +kernel
theorem dX12_wantClause_34 : decode cX12_wantClause 34 = .ok (.ifCond .eq 7, 3) := by decide +kernel
theorem dX12_wantClause_37 : decode cX12_wantClause 37 = .ok (.iload_n 2, 1) := by decide +kernel
theorem dX12_wantClause_38 : decode cX12_wantClause 38 = .ok (.goto 19, 3) := by decide +kernel
theorem dX12_wantClause_41 : decode cX12_wantClause 41 = .ok (.aload_n 0, 1) := by decide +kernel
theorem dX12_wantClause_42 : decode cX12_wantClause 42 = .ok (.bipush 98, 2) := by decide +kernel
theorem dX12_wantClause_44 : decode cX12_wantClause 44 = .ok (.bipush 121, 2) := by decide +kernel
theorem dX12_wantClause_46 : decode cX12_wantClause 46 = .ok (.invokestatic 124, 3) := by decide +kernel
theorem dX12_wantClause_49 : decode cX12_wantClause 49 = .ok (.iload_n 1, 1) := by decide +kernel
theorem dX12_wantClause_50 : decode cX12_wantClause 50 = .ok (.iconst 3, 1) := by decide +kernel
theorem dX12_wantClause_51 : decode cX12_wantClause 51 = .ok (.iadd, 1) := by decide +kernel
theorem dX12_wantClause_52 : decode cX12_wantClause 52 = .ok (.iconst 0, 1) := by decide +kernel
theorem dX12_wantClause_53 : decode cX12_wantClause 53 = .ok (.iconst 4, 1) := by decide +kernel
theorem dX12_wantClause_54 : decode cX12_wantClause 54 = .ok (.invokevirtual 224, 3) := by decide +kernel
theorem dX12_wantClause_57 : decode cX12_wantClause 57 = .ok (.ireturn, 1) := by decide +kernel
theorem dX12_buyClause_0 : decode cX12_buyClause 0 = .ok (.aload_n 0, 1) := by decide +kernel
theorem dX12_buyClause_1 : decode cX12_buyClause 1 = .ok (.iload_n 1, 1) := by decide +kernel
theorem dX12_buyClause_2 : decode cX12_buyClause 2 = .ok (.iconst 1, 1) := by decide +kernel
theorem dX12_buyClause_3 : decode cX12_buyClause 3 = .ok (.iadd, 1) := by decide +kernel
theorem dX12_buyClause_4 : decode cX12_buyClause 4 = .ok (.iconst 0, 1) := by decide +kernel
theorem dX12_buyClause_5 : decode cX12_buyClause 5 = .ok (.bipush 11, 2) := by decide +kernel
theorem dX12_buyClause_7 : decode cX12_buyClause 7 = .ok (.invokevirtual 217, 3) := by decide +kernel
theorem dX12_buyClause_10 : decode cX12_buyClause 10 = .ok (.istore_n 2, 1) := by decide +kernel
theorem dX12_buyClause_11 : decode cX12_buyClause 11 = .ok (.iload_n 2, 1) := by decide +kernel
theorem dX12_buyClause_12 : decode cX12_buyClause 12 = .ok (.ifCond .eq 7, 3) := by decide +kernel
theorem dX12_buyClause_15 : decode cX12_buyClause 15 = .ok (.iload_n 2, 1) := by decide +kernel
theorem dX12_buyClause_16 : decode cX12_buyClause 16 = .ok (.goto 23, 3) := by decide +kernel
theorem dX12_buyClause_19 : decode cX12_buyClause 19 = .ok (.aload_n 0, 1) := by decide +kernel
theorem dX12_buyClause_20 : decode cX12_buyClause 20 = .ok (.bipush 102, 2) := by decide +kernel
theorem dX12_buyClause_22 : decode cX12_buyClause 22 = .ok (.bipush 111, 2) := by decide +kernel
theorem dX12_buyClause_24 : decode cX12_buyClause 24 = .ok (.bipush 114, 2) := by decide +kernel
theorem dX12_buyClause_26 : decode cX12_buyClause 26 = .ok (.invokestatic 128, 3) := by decide +kernel
theorem dX12_buyClause_29 : decode cX12_buyClause 29 = .ok (.iload_n 1, 1) := by decide +kernel
theorem dX12_buyClause_30 : decode cX12_buyClause 30 = .ok (.iconst 2, 1) := by decide +kernel
theorem dX12_buyClause_31 : decode cX12_buyClause 31 = .ok (.iadd, 1) := by decide +kernel
theorem dX12_buyClause_32 : decode cX12_buyClause 32 = .ok (.iconst 0, 1) := by decide +kernel
theorem dX12_buyClause_33 : decode cX12_buyClause 33 = .ok (.sipush 999, 3) := by decide +kernel
theorem dX12_buyClause_36 : decode cX12_buyClause 36 = .ok (.invokevirtual 224, 3) := by decide +kernel
theorem dX12_buyClause_39 : decode cX12_buyClause 39 = .ok (.ireturn, 1) := by decide +kernel
theorem dX12_body_0 : decode cX12_body 0 = .ok (.iload_n 1, 1) := by decide +kernel
theorem dX12_body_1 : decode cX12_body 1 = .ok (.tableswitch 88 3 10 #[47, 53, 65, 88, 88, 88, 71, 77], 47) := by decide +kernel
theorem dX12_body_48 : decode cX12_body 48 = .ok (.aload_n 0, 1) := by decide +kernel
theorem dX12_body_49 : decode cX12_body 49 = .ok (.iload_n 2, 1) := by decide +kernel
theorem dX12_body_50 : decode cX12_body 50 = .ok (.invokevirtual 228, 3) := by decide +kernel
theorem dX12_body_53 : decode cX12_body 53 = .ok (.ireturn, 1) := by decide +kernel
theorem dX12_body_54 : decode cX12_body 54 = .ok (.aload_n 0, 1) := by decide +kernel
theorem dX12_body_55 : decode cX12_body 55 = .ok (.iload_n 2, 1) := by decide +kernel
theorem dX12_body_56 : decode cX12_body 56 = .ok (.iconst 1, 1) := by decide +kernel
theorem dX12_body_57 : decode cX12_body 57 = .ok (.iadd, 1) := by decide +kernel
theorem dX12_body_58 : decode cX12_body 58 = .ok (.iconst 0, 1) := by decide +kernel
theorem dX12_body_59 : decode cX12_body 59 = .ok (.sipush 9999, 3) := by decide +kernel
theorem dX12_body_62 : decode cX12_body 62 = .ok (.invokevirtual 217, 3) := by decide +kernel
theorem dX12_body_65 : decode cX12_body 65 = .ok (.ireturn, 1) := by decide +kernel
theorem dX12_body_66 : decode cX12_body 66 = .ok (.aload_n 0, 1) := by decide +kernel
theorem dX12_body_67 : decode cX12_body 67 = .ok (.iload_n 2, 1) := by decide +kernel
theorem dX12_body_68 : decode cX12_body 68 = .ok (.invokevirtual 231, 3) := by decide +kernel
theorem dX12_body_71 : decode cX12_body 71 = .ok (.ireturn, 1) := by decide +kernel
theorem dX12_body_72 : decode cX12_body 72 = .ok (.aload_n 0, 1) := by decide +kernel
theorem dX12_body_73 : decode cX12_body 73 = .ok (.iload_n 2, 1) := by decide +kernel
theorem dX12_body_74 : decode cX12_body 74 = .ok (.invokevirtual 234, 3) := by decide +kernel
theorem dX12_body_77 : decode cX12_body 77 = .ok (.ireturn, 1) := by decide +kernel
theorem dX12_body_78 : decode cX12_body 78 = .ok (.aload_n 0, 1) := by decide +kernel
theorem dX12_body_79 : decode cX12_body 79 = .ok (.iload_n 2, 1) := by decide +kernel
theorem dX12_body_80 : decode cX12_body 80 = .ok (.iconst 1, 1) := by decide +kernel
theorem dX12_body_81 : decode cX12_body 81 = .ok (.iadd, 1) := by decide +kernel
theorem dX12_body_82 : decode cX12_body 82 = .ok (.iconst 1, 1) := by decide +kernel
theorem dX12_body_83 : decode cX12_body 83 = .ok (.bipush 60, 2) := by decide +kernel
theorem dX12_body_85 : decode cX12_body 85 = .ok (.invokevirtual 217, 3) := by decide +kernel
theorem dX12_body_88 : decode cX12_body 88 = .ok (.ireturn, 1) := by decide +kernel
theorem dX12_body_89 : decode cX12_body 89 = .ok (.iload_n 1, 1) := by decide +kernel
theorem dX12_body_90 : decode cX12_body 90 = .ok (.iconst 2, 1) := by decide +kernel
theorem dX12_body_91 : decode cX12_body 91 = .ok (.if_icmp .gt 11, 3) := by decide +kernel
theorem dX12_body_94 : decode cX12_body 94 = .ok (.aload_n 0, 1) := by decide +kernel
theorem dX12_body_95 : decode cX12_body 95 = .ok (.iload_n 2, 1) := by decide +kernel
theorem dX12_body_96 : decode cX12_body 96 = .ok (.invokevirtual 237, 3) := by decide +kernel
theorem dX12_body_99 : decode cX12_body 99 = .ok (.goto 13, 3) := by decide +kernel
theorem dX12_body_102 : decode cX12_body 102 = .ok (.aload_n 0, 1) := by decide +kernel
theorem dX12_body_103 : decode cX12_body 103 = .ok (.iload_n 2, 1) := by decide +kernel
theorem dX12_body_104 : decode cX12_body 104 = .ok (.iconst 1, 1) := by decide +kernel
theorem dX12_body_105 : decode cX12_body 105 = .ok (.iadd, 1) := by decide +kernel
theorem dX12_body_106 : decode cX12_body 106 = .ok (.iconst 0, 1) := by decide +kernel
theorem dX12_body_107 : decode cX12_body 107 = .ok (.bipush 11, 2) := by decide +kernel
theorem dX12_body_109 : decode cX12_body 109 = .ok (.invokevirtual 217, 3) := by decide +kernel
theorem dX12_body_112 : decode cX12_body 112 = .ok (.ireturn, 1) := by decide +kernel
theorem dX12_sortOf_0 : decode cX12_sortOf 0 = .ok (.aload_n 0, 1) := by decide +kernel
theorem dX12_sortOf_1 : decode cX12_sortOf 1 = .ok (.bipush 98, 2) := by decide +kernel
theorem dX12_sortOf_3 : decode cX12_sortOf 3 = .ok (.bipush 105, 2) := by decide +kernel
theorem dX12_sortOf_5 : decode cX12_sortOf 5 = .ok (.bipush 100, 2) := by decide +kernel
theorem dX12_sortOf_7 : decode cX12_sortOf 7 = .ok (.bipush 115, 2) := by decide +kernel
theorem dX12_sortOf_9 : decode cX12_sortOf 9 = .ok (.invokestatic 132, 3) := by decide +kernel
theorem dX12_sortOf_12 : decode cX12_sortOf 12 = .ok (.invokevirtual 185, 3) := by decide +kernel
theorem dX12_sortOf_15 : decode cX12_sortOf 15 = .ok (.ifCond .eq 5, 3) := by decide +kernel
theorem dX12_sortOf_18 : decode cX12_sortOf 18 = .ok (.iconst 0, 1) := by decide +kernel
theorem dX12_sortOf_19 : decode cX12_sortOf 19 = .ok (.ireturn, 1) := by decide +kernel
theorem dX12_sortOf_20 : decode cX12_sortOf 20 = .ok (.aload_n 0, 1) := by decide +kernel
theorem dX12_sortOf_21 : decode cX12_sortOf 21 = .ok (.invokevirtual 240, 3) := by decide +kernel
theorem dX12_sortOf_24 : decode cX12_sortOf 24 = .ok (.ifCond .eq 5, 3) := by decide +kernel
theorem dX12_sortOf_27 : decode cX12_sortOf 27 = .ok (.iconst 1, 1) := by decide +kernel
theorem dX12_sortOf_28 : decode cX12_sortOf 28 = .ok (.ireturn, 1) := by decide +kernel
theorem dX12_sortOf_29 : decode cX12_sortOf 29 = .ok (.aload_n 0, 1) := by decide +kernel
theorem dX12_sortOf_30 : decode cX12_sortOf 30 = .ok (.bipush 119, 2) := by decide +kernel
theorem dX12_sortOf_32 : decode cX12_sortOf 32 = .ok (.bipush 97, 2) := by decide +kernel
theorem dX12_sortOf_34 : decode cX12_sortOf 34 = .ok (.bipush 114, 2) := by decide +kernel
theorem dX12_sortOf_36 : decode cX12_sortOf 36 = .ok (.bipush 109, 2) := by decide +kernel
theorem dX12_sortOf_38 : decode cX12_sortOf 38 = .ok (.bipush 115, 2) := by decide +kernel
theorem dX12_sortOf_40 : decode cX12_sortOf 40 = .ok (.invokestatic 136, 3) := by decide +kernel
theorem dX12_sortOf_43 : decode cX12_sortOf 43 = .ok (.invokevirtual 185, 3) := by decide +kernel
theorem dX12_sortOf_46 : decode cX12_sortOf 46 = .ok (.ifCond .eq 5, 3) := by decide +kernel
theorem dX12_sortOf_49 : decode cX12_sortOf 49 = .ok (.iconst 2, 1) := by decide +kernel
theorem dX12_sortOf_50 : decode cX12_sortOf 50 = .ok (.ireturn, 1) := by decide +kernel
theorem dX12_sortOf_51 : decode cX12_sortOf 51 = .ok (.aload_n 0, 1) := by decide +kernel
theorem dX12_sortOf_52 : decode cX12_sortOf 52 = .ok (.bipush 108, 2) := by decide +kernel
theorem dX12_sortOf_54 : decode cX12_sortOf 54 = .ok (.bipush 111, 2) := by decide +kernel
theorem dX12_sortOf_56 : decode cX12_sortOf 56 = .ok (.bipush 116, 2) := by decide +kernel
theorem dX12_sortOf_58 : decode cX12_sortOf 58 = .ok (.invokestatic 128, 3) := by decide +kernel
theorem dX12_sortOf_61 : decode cX12_sortOf 61 = .ok (.invokevirtual 185, 3) := by decide +kernel
theorem dX12_sortOf_64 : decode cX12_sortOf 64 = .ok (.ifCond .eq 5, 3) := by decide +kernel
theorem dX12_sortOf_67 : decode cX12_sortOf 67 = .ok (.iconst 3, 1) := by decide +kernel
theorem dX12_sortOf_68 : decode cX12_sortOf 68 = .ok (.ireturn, 1) := by decide +kernel
theorem dX12_sortOf_69 : decode cX12_sortOf 69 = .ok (.aload_n 0, 1) := by decide +kernel
theorem dX12_sortOf_70 : decode cX12_sortOf 70 = .ok (.bipush 98, 2) := by decide +kernel
theorem dX12_sortOf_72 : decode cX12_sortOf 72 = .ok (.bipush 105, 2) := by decide +kernel
theorem dX12_sortOf_74 : decode cX12_sortOf 74 = .ok (.bipush 100, 2) := by decide +kernel
theorem dX12_sortOf_76 : decode cX12_sortOf 76 = .ok (.bipush 100, 2) := by decide +kernel
theorem dX12_sortOf_78 : decode cX12_sortOf 78 = .ok (.bipush 101, 2) := by decide +kernel
theorem dX12_sortOf_80 : decode cX12_sortOf 80 = .ok (.bipush 114, 2) := by decide +kernel
theorem dX12_sortOf_82 : decode cX12_sortOf 82 = .ok (.invokestatic 146, 3) := by decide +kernel
theorem dX12_sortOf_85 : decode cX12_sortOf 85 = .ok (.invokevirtual 185, 3) := by decide +kernel
theorem dX12_sortOf_88 : decode cX12_sortOf 88 = .ok (.ifCond .eq 5, 3) := by decide +kernel
theorem dX12_sortOf_91 : decode cX12_sortOf 91 = .ok (.iconst 4, 1) := by decide +kernel
theorem dX12_sortOf_92 : decode cX12_sortOf 92 = .ok (.ireturn, 1) := by decide +kernel
theorem dX12_sortOf_93 : decode cX12_sortOf 93 = .ok (.aload_n 0, 1) := by decide +kernel
theorem dX12_sortOf_94 : decode cX12_sortOf 94 = .ok (.bipush 119, 2) := by decide +kernel
theorem dX12_sortOf_96 : decode cX12_sortOf 96 = .ok (.bipush 97, 2) := by decide +kernel
theorem dX12_sortOf_98 : decode cX12_sortOf 98 = .ok (.bipush 110, 2) := by decide +kernel
theorem dX12_sortOf_100 : decode cX12_sortOf 100 = .ok (.bipush 116, 2) := by decide +kernel
theorem dX12_sortOf_102 : decode cX12_sortOf 102 = .ok (.invokestatic 132, 3) := by decide +kernel
theorem dX12_sortOf_105 : decode cX12_sortOf 105 = .ok (.invokevirtual 185, 3) := by decide +kernel
theorem dX12_sortOf_108 : decode cX12_sortOf 108 = .ok (.ifCond .eq 5, 3) := by decide +kernel
theorem dX12_sortOf_111 : decode cX12_sortOf 111 = .ok (.iconst 5, 1) := by decide +kernel
theorem dX12_sortOf_112 : decode cX12_sortOf 112 = .ok (.ireturn, 1) := by decide +kernel
theorem dX12_sortOf_113 : decode cX12_sortOf 113 = .ok (.aload_n 0, 1) := by decide +kernel
theorem dX12_sortOf_114 : decode cX12_sortOf 114 = .ok (.bipush 115, 2) := by decide +kernel
theorem dX12_sortOf_116 : decode cX12_sortOf 116 = .ok (.bipush 101, 2) := by decide +kernel
theorem dX12_sortOf_118 : decode cX12_sortOf 118 = .ok (.bipush 108, 2) := by decide +kernel
theorem dX12_sortOf_120 : decode cX12_sortOf 120 = .ok (.bipush 108, 2) := by decide +kernel
theorem dX12_sortOf_122 : decode cX12_sortOf 122 = .ok (.invokestatic 132, 3) := by decide +kernel
theorem dX12_sortOf_125 : decode cX12_sortOf 125 = .ok (.invokevirtual 185, 3) := by decide +kernel
theorem dX12_sortOf_128 : decode cX12_sortOf 128 = .ok (.ifCond .eq 6, 3) := by decide +kernel
theorem dX12_sortOf_131 : decode cX12_sortOf 131 = .ok (.bipush 6, 2) := by decide +kernel
theorem dX12_sortOf_133 : decode cX12_sortOf 133 = .ok (.ireturn, 1) := by decide +kernel
theorem dX12_sortOf_134 : decode cX12_sortOf 134 = .ok (.aload_n 0, 1) := by decide +kernel
theorem dX12_sortOf_135 : decode cX12_sortOf 135 = .ok (.bipush 99, 2) := by decide +kernel
theorem dX12_sortOf_137 : decode cX12_sortOf 137 = .ok (.bipush 97, 2) := by decide +kernel
theorem dX12_sortOf_139 : decode cX12_sortOf 139 = .ok (.bipush 114, 2) := by decide +kernel
theorem dX12_sortOf_141 : decode cX12_sortOf 141 = .ok (.bipush 114, 2) := by decide +kernel
theorem dX12_sortOf_143 : decode cX12_sortOf 143 = .ok (.bipush 121, 2) := by decide +kernel
theorem dX12_sortOf_145 : decode cX12_sortOf 145 = .ok (.invokestatic 136, 3) := by decide +kernel
theorem dX12_sortOf_148 : decode cX12_sortOf 148 = .ok (.invokevirtual 185, 3) := by decide +kernel
theorem dX12_sortOf_151 : decode cX12_sortOf 151 = .ok (.ifCond .eq 6, 3) := by decide +kernel
theorem dX12_sortOf_154 : decode cX12_sortOf 154 = .ok (.bipush 7, 2) := by decide +kernel
theorem dX12_sortOf_156 : decode cX12_sortOf 156 = .ok (.ireturn, 1) := by decide +kernel
theorem dX12_sortOf_157 : decode cX12_sortOf 157 = .ok (.aload_n 0, 1) := by decide +kernel
theorem dX12_sortOf_158 : decode cX12_sortOf 158 = .ok (.bipush 98, 2) := by decide +kernel
theorem dX12_sortOf_160 : decode cX12_sortOf 160 = .ok (.bipush 117, 2) := by decide +kernel
theorem dX12_sortOf_162 : decode cX12_sortOf 162 = .ok (.bipush 114, 2) := by decide +kernel
theorem dX12_sortOf_164 : decode cX12_sortOf 164 = .ok (.bipush 110, 2) := by decide +kernel
theorem dX12_sortOf_166 : decode cX12_sortOf 166 = .ok (.invokestatic 132, 3) := by decide +kernel
theorem dX12_sortOf_169 : decode cX12_sortOf 169 = .ok (.invokevirtual 185, 3) := by decide +kernel
theorem dX12_sortOf_172 : decode cX12_sortOf 172 = .ok (.ifCond .eq 6, 3) := by decide +kernel
theorem dX12_sortOf_175 : decode cX12_sortOf 175 = .ok (.bipush 8, 2) := by decide +kernel
theorem dX12_sortOf_177 : decode cX12_sortOf 177 = .ok (.ireturn, 1) := by decide +kernel
theorem dX12_sortOf_178 : decode cX12_sortOf 178 = .ok (.aload_n 0, 1) := by decide +kernel
theorem dX12_sortOf_179 : decode cX12_sortOf 179 = .ok (.bipush 98, 2) := by decide +kernel
theorem dX12_sortOf_181 : decode cX12_sortOf 181 = .ok (.bipush 117, 2) := by decide +kernel
theorem dX12_sortOf_183 : decode cX12_sortOf 183 = .ok (.bipush 121, 2) := by decide +kernel
theorem dX12_sortOf_185 : decode cX12_sortOf 185 = .ok (.invokestatic 128, 3) := by decide +kernel
theorem dX12_sortOf_188 : decode cX12_sortOf 188 = .ok (.invokevirtual 185, 3) := by decide +kernel
theorem dX12_sortOf_191 : decode cX12_sortOf 191 = .ok (.ifCond .eq 8, 3) := by decide +kernel
theorem dX12_sortOf_194 : decode cX12_sortOf 194 = .ok (.bipush 9, 2) := by decide +kernel
theorem dX12_sortOf_196 : decode cX12_sortOf 196 = .ok (.goto 27, 3) := by decide +kernel
theorem dX12_sortOf_199 : decode cX12_sortOf 199 = .ok (.aload_n 0, 1) := by decide +kernel
theorem dX12_sortOf_200 : decode cX12_sortOf 200 = .ok (.bipush 119, 2) := by decide +kernel
theorem dX12_sortOf_202 : decode cX12_sortOf 202 = .ok (.bipush 101, 2) := by decide +kernel
theorem dX12_sortOf_204 : decode cX12_sortOf 204 = .ok (.bipush 101, 2) := by decide +kernel
theorem dX12_sortOf_206 : decode cX12_sortOf 206 = .ok (.bipush 107, 2) := by decide +kernel
theorem dX12_sortOf_208 : decode cX12_sortOf 208 = .ok (.invokestatic 132, 3) := by decide +kernel
theorem dX12_sortOf_211 : decode cX12_sortOf 211 = .ok (.invokevirtual 185, 3) := by decide +kernel
theorem dX12_sortOf_214 : decode cX12_sortOf 214 = .ok (.ifCond .eq 8, 3) := by decide +kernel
theorem dX12_sortOf_217 : decode cX12_sortOf 217 = .ok (.bipush 10, 2) := by decide +kernel
theorem dX12_sortOf_219 : decode cX12_sortOf 219 = .ok (.goto 4, 3) := by decide +kernel
theorem dX12_sortOf_222 : decode cX12_sortOf 222 = .ok (.iconst (-1), 1) := by decide +kernel
theorem dX12_sortOf_223 : decode cX12_sortOf 223 = .ok (.ireturn, 1) := by decide +kernel
theorem dX12_clause_0 : decode cX12_clause 0 = .ok (.aload_n 0, 1) := by decide +kernel
theorem dX12_clause_1 : decode cX12_clause 1 = .ok (.invokevirtual 243, 3) := by decide +kernel
theorem dX12_clause_4 : decode cX12_clause 4 = .ok (.istore_n 1, 1) := by decide +kernel
theorem dX12_clause_5 : decode cX12_clause 5 = .ok (.iload_n 1, 1) := by decide +kernel
theorem dX12_clause_6 : decode cX12_clause 6 = .ok (.ifCond .ge 5, 3) := by decide +kernel
theorem dX12_clause_9 : decode cX12_clause 9 = .ok (.iconst 1, 1) := by decide +kernel
theorem dX12_clause_10 : decode cX12_clause 10 = .ok (.ireturn, 1) := by decide +kernel
theorem dX12_clause_11 : decode cX12_clause 11 = .ok (.iload_n 1, 1) := by decide +kernel
theorem dX12_clause_12 : decode cX12_clause 12 = .ok (.iconst 2, 1) := by decide +kernel
theorem dX12_clause_13 : decode cX12_clause 13 = .ok (.if_icmp .gt 16, 3) := by decide +kernel
theorem dX12_clause_16 : decode cX12_clause 16 = .ok (.aload_n 0, 1) := by decide +kernel
theorem dX12_clause_17 : decode cX12_clause 17 = .ok (.getfield 246, 3) := by decide +kernel
theorem dX12_clause_20 : decode cX12_clause 20 = .ok (.iload_n 1, 1) := by decide +kernel
theorem dX12_clause_21 : decode cX12_clause 21 = .ok (.invokestatic 249, 3) := by decide +kernel
theorem dX12_clause_24 : decode cX12_clause 24 = .ok (.ifCond .eq 5, 3) := by decide +kernel
theorem dX12_clause_27 : decode cX12_clause 27 = .ok (.iconst 4, 1) := by decide +kernel
theorem dX12_clause_28 : decode cX12_clause 28 = .ok (.ireturn, 1) := by decide +kernel
theorem dX12_clause_29 : decode cX12_clause 29 = .ok (.aload_n 0, 1) := by decide +kernel
theorem dX12_clause_30 : decode cX12_clause 30 = .ok (.getfield 16, 3) := by decide +kernel
theorem dX12_clause_33 : decode cX12_clause 33 = .ok (.aload_n 0, 1) := by decide +kernel
theorem dX12_clause_34 : decode cX12_clause 34 = .ok (.getfield 140, 3) := by decide +kernel
theorem dX12_clause_37 : decode cX12_clause 37 = .ok (.iaload, 1) := by decide +kernel
theorem dX12_clause_38 : decode cX12_clause 38 = .ok (.istore_n 2, 1) := by decide +kernel
theorem dX12_clause_39 : decode cX12_clause 39 = .ok (.iload_n 2, 1) := by decide +kernel
theorem dX12_clause_40 : decode cX12_clause 40 = .ok (.bipush 24, 2) := by decide +kernel
theorem dX12_clause_42 : decode cX12_clause 42 = .ok (.if_icmp .ne 6, 3) := by decide +kernel
theorem dX12_clause_45 : decode cX12_clause 45 = .ok (.bipush 6, 2) := by decide +kernel
theorem dX12_clause_47 : decode cX12_clause 47 = .ok (.ireturn, 1) := by decide +kernel
theorem dX12_clause_48 : decode cX12_clause 48 = .ok (.iload_n 1, 1) := by decide +kernel
theorem dX12_clause_49 : decode cX12_clause 49 = .ok (.iconst 2, 1) := by decide +kernel
theorem dX12_clause_50 : decode cX12_clause 50 = .ok (.if_icmp .gt 15, 3) := by decide +kernel
theorem dX12_clause_53 : decode cX12_clause 53 = .ok (.aload_n 0, 1) := by decide +kernel
theorem dX12_clause_54 : decode cX12_clause 54 = .ok (.dup, 1) := by decide +kernel
theorem dX12_clause_55 : decode cX12_clause 55 = .ok (.getfield 246, 3) := by decide +kernel
theorem dX12_clause_58 : decode cX12_clause 58 = .ok (.iconst 1, 1) := by decide +kernel
theorem dX12_clause_59 : decode cX12_clause 59 = .ok (.iload_n 1, 1) := by decide +kernel
theorem dX12_clause_60 : decode cX12_clause 60 = .ok (.ishl, 1) := by decide +kernel
theorem dX12_clause_61 : decode cX12_clause 61 = .ok (.ior, 1) := by decide +kernel
theorem dX12_clause_62 : decode cX12_clause 62 = .ok (.putfield 246, 3) := by decide +kernel
theorem dX12_clause_65 : decode cX12_clause 65 = .ok (.aload_n 0, 1) := by decide +kernel
theorem dX12_clause_66 : decode cX12_clause 66 = .ok (.iload_n 1, 1) := by decide +kernel
theorem dX12_clause_67 : decode cX12_clause 67 = .ok (.putfield 176, 3) := by decide +kernel
theorem dX12_clause_70 : decode cX12_clause 70 = .ok (.aload_n 0, 1) := by decide +kernel
theorem dX12_clause_71 : decode cX12_clause 71 = .ok (.invokevirtual 170, 3) := by decide +kernel
theorem dX12_clause_74 : decode cX12_clause 74 = .ok (.aload_n 0, 1) := by decide +kernel
theorem dX12_clause_75 : decode cX12_clause 75 = .ok (.getfield 140, 3) := by decide +kernel
theorem dX12_clause_78 : decode cX12_clause 78 = .ok (.iconst 1, 1) := by decide +kernel
theorem dX12_clause_79 : decode cX12_clause 79 = .ok (.iadd, 1) := by decide +kernel
theorem dX12_clause_80 : decode cX12_clause 80 = .ok (.iconst 4, 1) := by decide +kernel
theorem dX12_clause_81 : decode cX12_clause 81 = .ok (.iload_n 2, 1) := by decide +kernel
theorem dX12_clause_82 : decode cX12_clause 82 = .ok (.imul, 1) := by decide +kernel
theorem dX12_clause_83 : decode cX12_clause 83 = .ok (.iadd, 1) := by decide +kernel
theorem dX12_clause_84 : decode cX12_clause 84 = .ok (.istore_n 3, 1) := by decide +kernel
theorem dX12_clause_85 : decode cX12_clause 85 = .ok (.aload_n 0, 1) := by decide +kernel
theorem dX12_clause_86 : decode cX12_clause 86 = .ok (.getfield 16, 3) := by decide +kernel
theorem dX12_clause_89 : decode cX12_clause 89 = .ok (.iload_n 3, 1) := by decide +kernel
theorem dX12_clause_90 : decode cX12_clause 90 = .ok (.iload_n 1, 1) := by decide +kernel
theorem dX12_clause_91 : decode cX12_clause 91 = .ok (.iastore, 1) := by decide +kernel
theorem dX12_clause_92 : decode cX12_clause 92 = .ok (.aload_n 0, 1) := by decide +kernel
theorem dX12_clause_93 : decode cX12_clause 93 = .ok (.iload_n 1, 1) := by decide +kernel
theorem dX12_clause_94 : decode cX12_clause 94 = .ok (.iload_n 3, 1) := by decide +kernel
theorem dX12_clause_95 : decode cX12_clause 95 = .ok (.invokevirtual 253, 3) := by decide +kernel
theorem dX12_clause_98 : decode cX12_clause 98 = .ok (.istore 4, 2) := by decide +kernel
theorem dX12_clause_100 : decode cX12_clause 100 = .ok (.iload 4, 2) := by decide +kernel
theorem dX12_clause_102 : decode cX12_clause 102 = .ok (.ifCond .eq 6, 3) := by decide +kernel
theorem dX12_clause_105 : decode cX12_clause 105 = .ok (.iload 4, 2) := by decide +kernel
theorem dX12_clause_107 : decode cX12_clause 107 = .ok (.ireturn, 1) := by decide +kernel
theorem dX12_clause_108 : decode cX12_clause 108 = .ok (.aload_n 0, 1) := by decide +kernel
theorem dX12_clause_109 : decode cX12_clause 109 = .ok (.getfield 16, 3) := by decide +kernel
theorem dX12_clause_112 : decode cX12_clause 112 = .ok (.aload_n 0, 1) := by decide +kernel
theorem dX12_clause_113 : decode cX12_clause 113 = .ok (.getfield 140, 3) := by decide +kernel
theorem dX12_clause_116 : decode cX12_clause 116 = .ok (.dup2, 1) := by decide +kernel
theorem dX12_clause_117 : decode cX12_clause 117 = .ok (.iaload, 1) := by decide +kernel
theorem dX12_clause_118 : decode cX12_clause 118 = .ok (.iconst 1, 1) := by decide +kernel
theorem dX12_clause_119 : decode cX12_clause 119 = .ok (.iadd, 1) := by decide +kernel
theorem dX12_clause_120 : decode cX12_clause 120 = .ok (.iastore, 1) := by decide +kernel
theorem dX12_clause_121 : decode cX12_clause 121 = .ok (.aload_n 0, 1) := by decide +kernel
theorem dX12_clause_122 : decode cX12_clause 122 = .ok (.getfield 102, 3) := by decide +kernel
theorem dX12_clause_125 : decode cX12_clause 125 = .ok (.bipush 59, 2) := by decide +kernel
theorem dX12_clause_127 : decode cX12_clause 127 = .ok (.if_icmp .eq 5, 3) := by decide +kernel
theorem dX12_clause_130 : decode cX12_clause 130 = .ok (.iconst 1, 1) := by decide +kernel
theorem dX12_clause_131 : decode cX12_clause 131 = .ok (.ireturn, 1) := by decide +kernel
theorem dX12_clause_132 : decode cX12_clause 132 = .ok (.aload_n 0, 1) := by decide +kernel
theorem dX12_clause_133 : decode cX12_clause 133 = .ok (.invokevirtual 170, 3) := by decide +kernel
theorem dX12_clause_136 : decode cX12_clause 136 = .ok (.iconst 0, 1) := by decide +kernel
theorem dX12_clause_137 : decode cX12_clause 137 = .ok (.ireturn, 1) := by decide +kernel
theorem dX12_readText_0 : decode cX12_readText 0 = .ok (.aload_n 0, 1) := by decide +kernel
theorem dX12_readText_1 : decode cX12_readText 1 = .ok (.sipush 705, 3) := by decide +kernel
theorem dX12_readText_4 : decode cX12_readText 4 = .ok (.aload_n 0, 1) := by decide +kernel
theorem dX12_readText_5 : decode cX12_readText 5 = .ok (.getfield 7, 3) := by decide +kernel
theorem dX12_readText_8 : decode cX12_readText 8 = .ok (.iconst 2, 1) := by decide +kernel
theorem dX12_readText_9 : decode cX12_readText 9 = .ok (.iaload, 1) := by decide +kernel
theorem dX12_readText_10 : decode cX12_readText 10 = .ok (.imul, 1) := by decide +kernel
theorem dX12_readText_11 : decode cX12_readText 11 = .ok (.putfield 140, 3) := by decide +kernel
theorem dX12_readText_14 : decode cX12_readText 14 = .ok (.aload_n 0, 1) := by decide +kernel
theorem dX12_readText_15 : decode cX12_readText 15 = .ok (.getfield 16, 3) := by decide +kernel
theorem dX12_readText_18 : decode cX12_readText 18 = .ok (.aload_n 0, 1) := by decide +kernel
theorem dX12_readText_19 : decode cX12_readText 19 = .ok (.getfield 140, 3) := by decide +kernel
theorem dX12_readText_22 : decode cX12_readText 22 = .ok (.iconst 0, 1) := by decide +kernel
theorem dX12_readText_23 : decode cX12_readText 23 = .ok (.iastore, 1) := by decide +kernel
theorem dX12_readText_24 : decode cX12_readText 24 = .ok (.aload_n 0, 1) := by decide +kernel
theorem dX12_readText_25 : decode cX12_readText 25 = .ok (.iconst 0, 1) := by decide +kernel
theorem dX12_readText_26 : decode cX12_readText 26 = .ok (.putfield 143, 3) := by decide +kernel
theorem dX12_readText_29 : decode cX12_readText 29 = .ok (.aload_n 0, 1) := by decide +kernel
theorem dX12_readText_30 : decode cX12_readText 30 = .ok (.iconst 0, 1) := by decide +kernel
theorem dX12_readText_31 : decode cX12_readText 31 = .ok (.putfield 246, 3) := by decide +kernel
theorem dX12_readText_34 : decode cX12_readText 34 = .ok (.aload_n 0, 1) := by decide +kernel
theorem dX12_readText_35 : decode cX12_readText 35 = .ok (.iconst 0, 1) := by decide +kernel
theorem dX12_readText_36 : decode cX12_readText 36 = .ok (.putfield 92, 3) := by decide +kernel
theorem dX12_readText_39 : decode cX12_readText 39 = .ok (.aload_n 0, 1) := by decide +kernel
theorem dX12_readText_40 : decode cX12_readText 40 = .ok (.invokevirtual 170, 3) := by decide +kernel
theorem dX12_readText_43 : decode cX12_readText 43 = .ok (.aload_n 0, 1) := by decide +kernel
theorem dX12_readText_44 : decode cX12_readText 44 = .ok (.getfield 102, 3) := by decide +kernel
theorem dX12_readText_47 : decode cX12_readText 47 = .ok (.ifCond .eq 17, 3) := by decide +kernel
theorem dX12_readText_50 : decode cX12_readText 50 = .ok (.aload_n 0, 1) := by decide +kernel
theorem dX12_readText_51 : decode cX12_readText 51 = .ok (.invokevirtual 256, 3) := by decide +kernel
theorem dX12_readText_54 : decode cX12_readText 54 = .ok (.istore_n 1, 1) := by decide +kernel
theorem dX12_readText_55 : decode cX12_readText 55 = .ok (.iload_n 1, 1) := by decide +kernel
theorem dX12_readText_56 : decode cX12_readText 56 = .ok (.ifCond .eq 5, 3) := by decide +kernel
theorem dX12_readText_59 : decode cX12_readText 59 = .ok (.iload_n 1, 1) := by decide +kernel
theorem dX12_readText_60 : decode cX12_readText 60 = .ok (.ireturn, 1) := by decide +kernel
theorem dX12_readText_61 : decode cX12_readText 61 = .ok (.goto (-18), 3) := by decide +kernel
theorem dX12_readText_64 : decode cX12_readText 64 = .ok (.iconst 0, 1) := by decide +kernel
theorem dX12_readText_65 : decode cX12_readText 65 = .ok (.ireturn, 1) := by decide +kernel
theorem dX12_text_0 : decode cX12_text 0 = .ok (.aload_n 0, 1) := by decide +kernel
theorem dX12_text_1 : decode cX12_text 1 = .ok (.getfield 7, 3) := by decide +kernel
theorem dX12_text_4 : decode cX12_text 4 = .ok (.iconst 2, 1) := by decide +kernel
theorem dX12_text_5 : decode cX12_text 5 = .ok (.iaload, 1) := by decide +kernel
theorem dX12_text_6 : decode cX12_text 6 = .ok (.iconst 4, 1) := by decide +kernel
theorem dX12_text_7 : decode cX12_text 7 = .ok (.if_icmp .ne 5, 3) := by decide +kernel
theorem dX12_text_10 : decode cX12_text 10 = .ok (.iconst (-1), 1) := by decide +kernel
theorem dX12_text_11 : decode cX12_text 11 = .ok (.ireturn, 1) := by decide +kernel
theorem dX12_text_12 : decode cX12_text 12 = .ok (.aload_n 0, 1) := by decide +kernel
theorem dX12_text_13 : decode cX12_text 13 = .ok (.aload_n 0, 1) := by decide +kernel
theorem dX12_text_14 : decode cX12_text 14 = .ok (.invokevirtual 259, 3) := by decide +kernel
theorem dX12_text_17 : decode cX12_text 17 = .ok (.putfield 22, 3) := by decide +kernel
theorem dX12_text_20 : decode cX12_text 20 = .ok (.aload_n 0, 1) := by decide +kernel
theorem dX12_text_21 : decode cX12_text 21 = .ok (.aload_n 0, 1) := by decide +kernel
theorem dX12_text_22 : decode cX12_text 22 = .ok (.getfield 22, 3) := by decide +kernel
theorem dX12_text_25 : decode cX12_text 25 = .ok (.ifCond .ne 7, 3) := by decide +kernel
theorem dX12_text_28 : decode cX12_text 28 = .ok (.iconst (-1), 1) := by decide +kernel
theorem dX12_text_29 : decode cX12_text 29 = .ok (.goto 7, 3) := by decide +kernel
theorem dX12_text_32 : decode cX12_text 32 = .ok (.aload_n 0, 1) := by decide +kernel
theorem dX12_text_33 : decode cX12_text 33 = .ok (.getfield 99, 3) := by decide +kernel
theorem dX12_text_36 : decode cX12_text 36 = .ok (.putfield 26, 3) := by decide +kernel
theorem dX12_text_39 : decode cX12_text 39 = .ok (.aload_n 0, 1) := by decide +kernel
theorem dX12_text_40 : decode cX12_text 40 = .ok (.iconst 0, 1) := by decide +kernel
theorem dX12_text_41 : decode cX12_text 41 = .ok (.putfield 85, 3) := by decide +kernel
theorem dX12_text_44 : decode cX12_text 44 = .ok (.aload_n 0, 1) := by decide +kernel
theorem dX12_text_45 : decode cX12_text 45 = .ok (.getfield 22, 3) := by decide +kernel
theorem dX12_text_48 : decode cX12_text 48 = .ok (.ifCond .eq 5, 3) := by decide +kernel
theorem dX12_text_51 : decode cX12_text 51 = .ok (.iconst (-1), 1) := by decide +kernel
theorem dX12_text_52 : decode cX12_text 52 = .ok (.ireturn, 1) := by decide +kernel
theorem dX12_text_53 : decode cX12_text 53 = .ok (.aload_n 0, 1) := by decide +kernel
theorem dX12_text_54 : decode cX12_text 54 = .ok (.getfield 7, 3) := by decide +kernel
theorem dX12_text_57 : decode cX12_text 57 = .ok (.iconst 2, 1) := by decide +kernel
theorem dX12_text_58 : decode cX12_text 58 = .ok (.dup2, 1) := by decide +kernel
theorem dX12_text_59 : decode cX12_text 59 = .ok (.iaload, 1) := by decide +kernel
theorem dX12_text_60 : decode cX12_text 60 = .ok (.iconst 1, 1) := by decide +kernel
theorem dX12_text_61 : decode cX12_text 61 = .ok (.iadd, 1) := by decide +kernel
theorem dX12_text_62 : decode cX12_text 62 = .ok (.iastore, 1) := by decide +kernel
theorem dX12_text_63 : decode cX12_text 63 = .ok (.aload_n 0, 1) := by decide +kernel
theorem dX12_text_64 : decode cX12_text 64 = .ok (.getfield 7, 3) := by decide +kernel
theorem dX12_text_67 : decode cX12_text 67 = .ok (.iconst 2, 1) := by decide +kernel
theorem dX12_text_68 : decode cX12_text 68 = .ok (.iaload, 1) := by decide +kernel
theorem dX12_text_69 : decode cX12_text 69 = .ok (.iconst 1, 1) := by decide +kernel
theorem dX12_text_70 : decode cX12_text 70 = .ok (.isub, 1) := by decide +kernel
theorem dX12_text_71 : decode cX12_text 71 = .ok (.ireturn, 1) := by decide +kernel
theorem dX12_fault_0 : decode cX12_fault 0 = .ok (.iload_n 1, 1) := by decide +kernel
theorem dX12_fault_1 : decode cX12_fault 1 = .ok (.ifCond .ne 10, 3) := by decide +kernel
theorem dX12_fault_4 : decode cX12_fault 4 = .ok (.aload_n 0, 1) := by decide +kernel
theorem dX12_fault_5 : decode cX12_fault 5 = .ok (.getfield 22, 3) := by decide +kernel
theorem dX12_fault_8 : decode cX12_fault 8 = .ok (.goto 16, 3) := by decide +kernel
theorem dX12_fault_11 : decode cX12_fault 11 = .ok (.iload_n 1, 1) := by decide +kernel
theorem dX12_fault_12 : decode cX12_fault 12 = .ok (.iconst 1, 1) := by decide +kernel
theorem dX12_fault_13 : decode cX12_fault 13 = .ok (.if_icmp .ne 10, 3) := by decide +kernel
theorem dX12_fault_16 : decode cX12_fault 16 = .ok (.aload_n 0, 1) := by decide +kernel
theorem dX12_fault_17 : decode cX12_fault 17 = .ok (.getfield 26, 3) := by decide +kernel
theorem dX12_fault_20 : decode cX12_fault 20 = .ok (.goto 4, 3) := by decide +kernel
theorem dX12_fault_23 : decode cX12_fault 23 = .ok (.iconst (-1), 1) := by decide +kernel
theorem dX12_fault_24 : decode cX12_fault 24 = .ok (.ireturn, 1) := by decide +kernel
theorem dX12_by_0 : decode cX12_by 0 = .ok (.iload_n 1, 1) := by decide +kernel
theorem dX12_by_1 : decode cX12_by 1 = .ok (.iconst (-1), 1) := by decide +kernel
theorem dX12_by_2 : decode cX12_by 2 = .ok (.aload_n 0, 1) := by decide +kernel
theorem dX12_by_3 : decode cX12_by 3 = .ok (.getfield 7, 3) := by decide +kernel
theorem dX12_by_6 : decode cX12_by 6 = .ok (.iconst 2, 1) := by decide +kernel
theorem dX12_by_7 : decode cX12_by 7 = .ok (.iaload, 1) := by decide +kernel
theorem dX12_by_8 : decode cX12_by 8 = .ok (.iconst 1, 1) := by decide +kernel
theorem dX12_by_9 : decode cX12_by 9 = .ok (.isub, 1) := by decide +kernel
theorem dX12_by_10 : decode cX12_by 10 = .ok (.invokestatic 60, 3) := by decide +kernel
theorem dX12_by_13 : decode cX12_by 13 = .ok (.ifCond .ne 5, 3) := by decide +kernel
theorem dX12_by_16 : decode cX12_by 16 = .ok (.iconst 0, 1) := by decide +kernel
theorem dX12_by_17 : decode cX12_by 17 = .ok (.ireturn, 1) := by decide +kernel
theorem dX12_by_18 : decode cX12_by 18 = .ok (.aload_n 0, 1) := by decide +kernel
theorem dX12_by_19 : decode cX12_by 19 = .ok (.getfield 7, 3) := by decide +kernel
theorem dX12_by_22 : decode cX12_by 22 = .ok (.iconst 3, 1) := by decide +kernel
theorem dX12_by_23 : decode cX12_by 23 = .ok (.iload_n 1, 1) := by decide +kernel
theorem dX12_by_24 : decode cX12_by 24 = .ok (.iastore, 1) := by decide +kernel
theorem dX12_by_25 : decode cX12_by 25 = .ok (.iconst 1, 1) := by decide +kernel
theorem dX12_by_26 : decode cX12_by 26 = .ok (.ireturn, 1) := by decide +kernel
theorem dX12_clip_0 : decode cX12_clip 0 = .ok (.lload_n 0, 1) := by decide +kernel
theorem dX12_clip_1 : decode cX12_clip 1 = .ok (.ldc2_w 262, 3) := by decide +kernel
theorem dX12_clip_4 : decode cX12_clip 4 = .ok (.lcmp, 1) := by decide +kernel
theorem dX12_clip_5 : decode cX12_clip 5 = .ok (.ifCond .le 9, 3) := by decide +kernel
theorem dX12_clip_8 : decode cX12_clip 8 = .ok (.ldc2_w 262, 3) := by decide +kernel
theorem dX12_clip_11 : decode cX12_clip 11 = .ok (.goto 18, 3) := by decide +kernel
theorem dX12_clip_14 : decode cX12_clip 14 = .ok (.lload_n 0, 1) := by decide +kernel
theorem dX12_clip_15 : decode cX12_clip 15 = .ok (.ldc2_w 264, 3) := by decide +kernel
theorem dX12_clip_18 : decode cX12_clip 18 = .ok (.lcmp, 1) := by decide +kernel
theorem dX12_clip_19 : decode cX12_clip 19 = .ok (.ifCond .ge 9, 3) := by decide +kernel
theorem dX12_clip_22 : decode cX12_clip 22 = .ok (.ldc2_w 264, 3) := by decide +kernel
theorem dX12_clip_25 : decode cX12_clip 25 = .ok (.goto 4, 3) := by decide +kernel
theorem dX12_clip_28 : decode cX12_clip 28 = .ok (.lload_n 0, 1) := by decide +kernel
theorem dX12_clip_29 : decode cX12_clip 29 = .ok (.lreturn, 1) := by decide +kernel
theorem dX12_two_0 : decode cX12_two 0 = .ok (.iload_n 0, 1) := by decide +kernel
theorem dX12_two_1 : decode cX12_two 1 = .ok (.tableswitch 48 6 8 #[27, 34, 41], 27) := by decide +kernel
theorem dX12_two_28 : decode cX12_two 28 = .ok (.lload_n 1, 1) := by decide +kernel
theorem dX12_two_29 : decode cX12_two 29 = .ok (.lload_n 3, 1) := by decide +kernel
theorem dX12_two_30 : decode cX12_two 30 = .ok (.ladd, 1) := by decide +kernel
theorem dX12_two_31 : decode cX12_two 31 = .ok (.invokestatic 266, 3) := by decide +kernel
theorem dX12_two_34 : decode cX12_two 34 = .ok (.lreturn, 1) := by decide +kernel
theorem dX12_two_35 : decode cX12_two 35 = .ok (.lload_n 1, 1) := by decide +kernel
theorem dX12_two_36 : decode cX12_two 36 = .ok (.lload_n 3, 1) := by decide +kernel
theorem dX12_two_37 : decode cX12_two 37 = .ok (.lsub, 1) := by decide +kernel
theorem dX12_two_38 : decode cX12_two 38 = .ok (.invokestatic 266, 3) := by decide +kernel
theorem dX12_two_41 : decode cX12_two 41 = .ok (.lreturn, 1) := by decide +kernel
theorem dX12_two_42 : decode cX12_two 42 = .ok (.lload_n 1, 1) := by decide +kernel
theorem dX12_two_43 : decode cX12_two 43 = .ok (.lload_n 3, 1) := by decide +kernel
theorem dX12_two_44 : decode cX12_two 44 = .ok (.lmul, 1) := by decide +kernel
theorem dX12_two_45 : decode cX12_two 45 = .ok (.invokestatic 266, 3) := by decide +kernel
theorem dX12_two_48 : decode cX12_two 48 = .ok (.lreturn, 1) := by decide +kernel
theorem dX12_two_49 : decode cX12_two 49 = .ok (.lload_n 3, 1) := by decide +kernel
theorem dX12_two_50 : decode cX12_two 50 = .ok (.lconst 0, 1) := by decide +kernel
theorem dX12_two_51 : decode cX12_two 51 = .ok (.lcmp, 1) := by decide +kernel
theorem dX12_two_52 : decode cX12_two 52 = .ok (.ifCond .ne 7, 3) := by decide +kernel
theorem dX12_two_55 : decode cX12_two 55 = .ok (.lconst 0, 1) := by decide +kernel
theorem dX12_two_56 : decode cX12_two 56 = .ok (.goto 9, 3) := by decide +kernel
theorem dX12_two_59 : decode cX12_two 59 = .ok (.lload_n 1, 1) := by decide +kernel
theorem dX12_two_60 : decode cX12_two 60 = .ok (.lload_n 3, 1) := by decide +kernel
theorem dX12_two_61 : decode cX12_two 61 = .ok (.ldiv, 1) := by decide +kernel
theorem dX12_two_62 : decode cX12_two 62 = .ok (.invokestatic 266, 3) := by decide +kernel
theorem dX12_two_65 : decode cX12_two 65 = .ok (.lreturn, 1) := by decide +kernel
theorem dX12_isAsked_0 : decode cX12_isAsked 0 = .ok (.iload_n 0, 1) := by decide +kernel
theorem dX12_isAsked_1 : decode cX12_isAsked 1 = .ok (.bipush 10, 2) := by decide +kernel
theorem dX12_isAsked_3 : decode cX12_isAsked 3 = .ok (.if_icmp .ne 17, 3) := by decide +kernel
theorem dX12_isAsked_6 : decode cX12_isAsked 6 = .ok (.lload_n 1, 1) := by decide +kernel
theorem dX12_isAsked_7 : decode cX12_isAsked 7 = .ok (.lload_n 3, 1) := by decide +kernel
theorem dX12_isAsked_8 : decode cX12_isAsked 8 = .ok (.lcmp, 1) := by decide +kernel
theorem dX12_isAsked_9 : decode cX12_isAsked 9 = .ok (.ifCond .ge 7, 3) := by decide +kernel
theorem dX12_isAsked_12 : decode cX12_isAsked 12 = .ok (.iconst 1, 1) := by decide +kernel
theorem dX12_isAsked_13 : decode cX12_isAsked 13 = .ok (.goto 98, 3) := by decide +kernel
theorem dX12_isAsked_16 : decode cX12_isAsked 16 = .ok (.iconst 0, 1) := by decide +kernel
theorem dX12_isAsked_17 : decode cX12_isAsked 17 = .ok (.goto 94, 3) := by decide +kernel
theorem dX12_isAsked_20 : decode cX12_isAsked 20 = .ok (.iload_n 0, 1) := by decide +kernel
theorem dX12_isAsked_21 : decode cX12_isAsked 21 = .ok (.bipush 11, 2) := by decide +kernel
theorem dX12_isAsked_23 : decode cX12_isAsked 23 = .ok (.if_icmp .ne 17, 3) := by decide +kernel
theorem dX12_isAsked_26 : decode cX12_isAsked 26 = .ok (.lload_n 1, 1) := by decide +kernel
theorem dX12_isAsked_27 : decode cX12_isAsked 27 = .ok (.lload_n 3, 1) := by decide +kernel
theorem dX12_isAsked_28 : decode cX12_isAsked 28 = .ok (.lcmp, 1) := by decide +kernel
theorem dX12_isAsked_29 : decode cX12_isAsked 29 = .ok (.ifCond .gt 7, 3) := by decide +kernel
theorem dX12_isAsked_32 : decode cX12_isAsked 32 = .ok (.iconst 1, 1) := by decide +kernel
theorem dX12_isAsked_33 : decode cX12_isAsked 33 = .ok (.goto 78, 3) := by decide +kernel
theorem dX12_isAsked_36 : decode cX12_isAsked 36 = .ok (.iconst 0, 1) := by decide +kernel
theorem dX12_isAsked_37 : decode cX12_isAsked 37 = .ok (.goto 74, 3) := by decide +kernel
theorem dX12_isAsked_40 : decode cX12_isAsked 40 = .ok (.iload_n 0, 1) := by decide +kernel
theorem dX12_isAsked_41 : decode cX12_isAsked 41 = .ok (.bipush 12, 2) := by decide +kernel
theorem dX12_isAsked_43 : decode cX12_isAsked 43 = .ok (.if_icmp .ne 17, 3) := by decide +kernel
theorem dX12_isAsked_46 : decode cX12_isAsked 46 = .ok (.lload_n 1, 1) := by decide +kernel
theorem dX12_isAsked_47 : decode cX12_isAsked 47 = .ok (.lload_n 3, 1) := by decide +kernel
theorem dX12_isAsked_48 : decode cX12_isAsked 48 = .ok (.lcmp, 1) := by decide +kernel
theorem dX12_isAsked_49 : decode cX12_isAsked 49 = .ok (.ifCond .le 7, 3) := by decide +kernel
theorem dX12_isAsked_52 : decode cX12_isAsked 52 = .ok (.iconst 1, 1) := by decide +kernel
theorem dX12_isAsked_53 : decode cX12_isAsked 53 = .ok (.goto 58, 3) := by decide +kernel
theorem dX12_isAsked_56 : decode cX12_isAsked 56 = .ok (.iconst 0, 1) := by decide +kernel
theorem dX12_isAsked_57 : decode cX12_isAsked 57 = .ok (.goto 54, 3) := by decide +kernel
theorem dX12_isAsked_60 : decode cX12_isAsked 60 = .ok (.iload_n 0, 1) := by decide +kernel
theorem dX12_isAsked_61 : decode cX12_isAsked 61 = .ok (.bipush 13, 2) := by decide +kernel
theorem dX12_isAsked_63 : decode cX12_isAsked 63 = .ok (.if_icmp .ne 17, 3) := by decide +kernel
theorem dX12_isAsked_66 : decode cX12_isAsked 66 = .ok (.lload_n 1, 1) := by decide +kernel
theorem dX12_isAsked_67 : decode cX12_isAsked 67 = .ok (.lload_n 3, 1) := by decide +kernel
theorem dX12_isAsked_68 : decode cX12_isAsked 68 = .ok (.lcmp, 1) := by decide +kernel
theorem dX12_isAsked_69 : decode cX12_isAsked 69 = .ok (.ifCond .lt 7, 3) := by decide +kernel
theorem dX12_isAsked_72 : decode cX12_isAsked 72 = .ok (.iconst 1, 1) := by decide +kernel
theorem dX12_isAsked_73 : decode cX12_isAsked 73 = .ok (.goto 38, 3) := by decide +kernel
theorem dX12_isAsked_76 : decode cX12_isAsked 76 = .ok (.iconst 0, 1) := by decide +kernel
theorem dX12_isAsked_77 : decode cX12_isAsked 77 = .ok (.goto 34, 3) := by decide +kernel
theorem dX12_isAsked_80 : decode cX12_isAsked 80 = .ok (.iload_n 0, 1) := by decide +kernel
theorem dX12_isAsked_81 : decode cX12_isAsked 81 = .ok (.bipush 14, 2) := by decide +kernel
theorem dX12_isAsked_83 : decode cX12_isAsked 83 = .ok (.if_icmp .ne 17, 3) := by decide +kernel
theorem dX12_isAsked_86 : decode cX12_isAsked 86 = .ok (.lload_n 1, 1) := by decide +kernel
theorem dX12_isAsked_87 : decode cX12_isAsked 87 = .ok (.lload_n 3, 1) := by decide +kernel
theorem dX12_isAsked_88 : decode cX12_isAsked 88 = .ok (.lcmp, 1) := by decide +kernel
theorem dX12_isAsked_89 : decode cX12_isAsked 89 = .ok (.ifCond .ne 7, 3) := by decide +kernel
theorem dX12_isAsked_92 : decode cX12_isAsked 92 = .ok (.iconst 1, 1) := by decide +kernel
theorem dX12_isAsked_93 : decode cX12_isAsked 93 = .ok (.goto 18, 3) := by decide +kernel
theorem dX12_isAsked_96 : decode cX12_isAsked 96 = .ok (.iconst 0, 1) := by decide +kernel
theorem dX12_isAsked_97 : decode cX12_isAsked 97 = .ok (.goto 14, 3) := by decide +kernel
theorem dX12_isAsked_100 : decode cX12_isAsked 100 = .ok (.lload_n 1, 1) := by decide +kernel
theorem dX12_isAsked_101 : decode cX12_isAsked 101 = .ok (.lload_n 3, 1) := by decide +kernel
theorem dX12_isAsked_102 : decode cX12_isAsked 102 = .ok (.lcmp, 1) := by decide +kernel
theorem dX12_isAsked_103 : decode cX12_isAsked 103 = .ok (.ifCond .eq 7, 3) := by decide +kernel
theorem dX12_isAsked_106 : decode cX12_isAsked 106 = .ok (.iconst 1, 1) := by decide +kernel
theorem dX12_isAsked_107 : decode cX12_isAsked 107 = .ok (.goto 4, 3) := by decide +kernel
theorem dX12_isAsked_110 : decode cX12_isAsked 110 = .ok (.iconst 0, 1) := by decide +kernel
theorem dX12_isAsked_111 : decode cX12_isAsked 111 = .ok (.ireturn, 1) := by decide +kernel
theorem dX12_worthsOf_0 : decode cX12_worthsOf 0 = .ok (.lload_n 1, 1) := by decide +kernel
theorem dX12_worthsOf_1 : decode cX12_worthsOf 1 = .ok (.lconst 0, 1) := by decide +kernel
theorem dX12_worthsOf_2 : decode cX12_worthsOf 2 = .ok (.lcmp, 1) := by decide +kernel
theorem dX12_worthsOf_3 : decode cX12_worthsOf 3 = .ok (.ifCond .lt 26, 3) := by decide +kernel
theorem dX12_worthsOf_6 : decode cX12_worthsOf 6 = .ok (.lload_n 1, 1) := by decide +kernel
theorem dX12_worthsOf_7 : decode cX12_worthsOf 7 = .ok (.aload_n 0, 1) := by decide +kernel
theorem dX12_worthsOf_8 : decode cX12_worthsOf 8 = .ok (.getfield 7, 3) := by decide +kernel
theorem dX12_worthsOf_11 : decode cX12_worthsOf 11 = .ok (.iconst 0, 1) := by decide +kernel
theorem dX12_worthsOf_12 : decode cX12_worthsOf 12 = .ok (.iaload, 1) := by decide +kernel
theorem dX12_worthsOf_13 : decode cX12_worthsOf 13 = .ok (.i2l, 1) := by decide +kernel
theorem dX12_worthsOf_14 : decode cX12_worthsOf 14 = .ok (.lcmp, 1) := by decide +kernel
theorem dX12_worthsOf_15 : decode cX12_worthsOf 15 = .ok (.ifCond .ge 14, 3) := by decide +kernel
theorem dX12_worthsOf_18 : decode cX12_worthsOf 18 = .ok (.aload_n 0, 1) := by decide +kernel
theorem dX12_worthsOf_19 : decode cX12_worthsOf 19 = .ok (.lload_n 1, 1) := by decide +kernel
theorem dX12_worthsOf_20 : decode cX12_worthsOf 20 = .ok (.l2i, 1) := by decide +kernel
theorem dX12_worthsOf_21 : decode cX12_worthsOf 21 = .ok (.iconst 2, 1) := by decide +kernel
theorem dX12_worthsOf_22 : decode cX12_worthsOf 22 = .ok (.invokevirtual 68, 3) := by decide +kernel
theorem dX12_worthsOf_25 : decode cX12_worthsOf 25 = .ok (.i2l, 1) := by decide +kernel
theorem dX12_worthsOf_26 : decode cX12_worthsOf 26 = .ok (.goto 4, 3) := by decide +kernel
theorem dX12_worthsOf_29 : decode cX12_worthsOf 29 = .ok (.lconst 0, 1) := by decide +kernel
theorem dX12_worthsOf_30 : decode cX12_worthsOf 30 = .ok (.lreturn, 1) := by decide +kernel
theorem dX12_evenBy_0 : decode cX12_evenBy 0 = .ok (.lload_n 2, 1) := by decide +kernel
theorem dX12_evenBy_1 : decode cX12_evenBy 1 = .ok (.lconst 0, 1) := by decide +kernel
theorem dX12_evenBy_2 : decode cX12_evenBy 2 = .ok (.lcmp, 1) := by decide +kernel
theorem dX12_evenBy_3 : decode cX12_evenBy 3 = .ok (.ifCond .ne 7, 3) := by decide +kernel
theorem dX12_evenBy_6 : decode cX12_evenBy 6 = .ok (.lconst 0, 1) := by decide +kernel
theorem dX12_evenBy_7 : decode cX12_evenBy 7 = .ok (.goto 8, 3) := by decide +kernel
theorem dX12_evenBy_10 : decode cX12_evenBy 10 = .ok (.lload_n 0, 1) := by decide +kernel
theorem dX12_evenBy_11 : decode cX12_evenBy 11 = .ok (.lload_n 2, 1) := by decide +kernel
theorem dX12_evenBy_12 : decode cX12_evenBy 12 = .ok (.ldiv, 1) := by decide +kernel
theorem dX12_evenBy_13 : decode cX12_evenBy 13 = .ok (.lload_n 2, 1) := by decide +kernel
theorem dX12_evenBy_14 : decode cX12_evenBy 14 = .ok (.lmul, 1) := by decide +kernel
theorem dX12_evenBy_15 : decode cX12_evenBy 15 = .ok (.lreturn, 1) := by decide +kernel
theorem dX12_joined_0 : decode cX12_joined 0 = .ok (.iload_n 0, 1) := by decide +kernel
theorem dX12_joined_1 : decode cX12_joined 1 = .ok (.bipush 21, 2) := by decide +kernel
theorem dX12_joined_3 : decode cX12_joined 3 = .ok (.if_icmp .ne 19, 3) := by decide +kernel
theorem dX12_joined_6 : decode cX12_joined 6 = .ok (.iload_n 1, 1) := by decide +kernel
theorem dX12_joined_7 : decode cX12_joined 7 = .ok (.ifCond .eq 11, 3) := by decide +kernel
theorem dX12_joined_10 : decode cX12_joined 10 = .ok (.iload_n 2, 1) := by decide +kernel
theorem dX12_joined_11 : decode cX12_joined 11 = .ok (.ifCond .eq 7, 3) := by decide +kernel
theorem dX12_joined_14 : decode cX12_joined 14 = .ok (.iconst 1, 1) := by decide +kernel
theorem dX12_joined_15 : decode cX12_joined 15 = .ok (.goto 20, 3) := by decide +kernel
theorem dX12_joined_18 : decode cX12_joined 18 = .ok (.iconst 0, 1) := by decide +kernel
theorem dX12_joined_19 : decode cX12_joined 19 = .ok (.goto 16, 3) := by decide +kernel
theorem dX12_joined_22 : decode cX12_joined 22 = .ok (.iload_n 1, 1) := by decide +kernel
theorem dX12_joined_23 : decode cX12_joined 23 = .ok (.ifCond .ne 7, 3) := by decide +kernel
theorem dX12_joined_26 : decode cX12_joined 26 = .ok (.iload_n 2, 1) := by decide +kernel
theorem dX12_joined_27 : decode cX12_joined 27 = .ok (.ifCond .eq 7, 3) := by decide +kernel
theorem dX12_joined_30 : decode cX12_joined 30 = .ok (.iconst 1, 1) := by decide +kernel
theorem dX12_joined_31 : decode cX12_joined 31 = .ok (.goto 4, 3) := by decide +kernel
theorem dX12_joined_34 : decode cX12_joined 34 = .ok (.iconst 0, 1) := by decide +kernel
theorem dX12_joined_35 : decode cX12_joined 35 = .ok (.ireturn, 1) := by decide +kernel
theorem dX12_summedUp_0 : decode cX12_summedUp 0 = .ok (.sipush 705, 3) := by decide +kernel
theorem dX12_summedUp_3 : decode cX12_summedUp 3 = .ok (.iload_n 1, 1) := by decide +kernel
theorem dX12_summedUp_4 : decode cX12_summedUp 4 = .ok (.imul, 1) := by decide +kernel
theorem dX12_summedUp_5 : decode cX12_summedUp 5 = .ok (.iconst 1, 1) := by decide +kernel
theorem dX12_summedUp_6 : decode cX12_summedUp 6 = .ok (.iadd, 1) := by decide +kernel
theorem dX12_summedUp_7 : decode cX12_summedUp 7 = .ok (.iconst 4, 1) := by decide +kernel
theorem dX12_summedUp_8 : decode cX12_summedUp 8 = .ok (.iload_n 2, 1) := by decide +kernel
theorem dX12_summedUp_9 : decode cX12_summedUp 9 = .ok (.imul, 1) := by decide +kernel
theorem dX12_summedUp_10 : decode cX12_summedUp 10 = .ok (.iadd, 1) := by decide +kernel
theorem dX12_summedUp_11 : decode cX12_summedUp 11 = .ok (.istore_n 3, 1) := by decide +kernel
theorem dX12_summedUp_12 : decode cX12_summedUp 12 = .ok (.sipush 705, 3) := by decide +kernel
theorem dX12_summedUp_15 : decode cX12_summedUp 15 = .ok (.iload_n 1, 1) := by decide +kernel
theorem dX12_summedUp_16 : decode cX12_summedUp 16 = .ok (.imul, 1) := by decide +kernel
theorem dX12_summedUp_17 : decode cX12_summedUp 17 = .ok (.bipush 97, 2) := by decide +kernel
theorem dX12_summedUp_19 : decode cX12_summedUp 19 = .ok (.iadd, 1) := by decide +kernel
theorem dX12_summedUp_20 : decode cX12_summedUp 20 = .ok (.istore 4, 2) := by decide +kernel
theorem dX12_summedUp_22 : decode cX12_summedUp 22 = .ok (.iconst 0, 1) := by decide +kernel
theorem dX12_summedUp_23 : decode cX12_summedUp 23 = .ok (.istore 5, 2) := by decide +kernel
theorem dX12_summedUp_25 : decode cX12_summedUp 25 = .ok (.iconst 0, 1) := by decide +kernel
theorem dX12_summedUp_26 : decode cX12_summedUp 26 = .ok (.istore 6, 2) := by decide +kernel
theorem dX12_summedUp_28 : decode cX12_summedUp 28 = .ok (.aload_n 0, 1) := by decide +kernel
theorem dX12_summedUp_29 : decode cX12_summedUp 29 = .ok (.getfield 16, 3) := by decide +kernel
theorem dX12_summedUp_32 : decode cX12_summedUp 32 = .ok (.iload_n 3, 1) := by decide +kernel
theorem dX12_summedUp_33 : decode cX12_summedUp 33 = .ok (.iconst 1, 1) := by decide +kernel
theorem dX12_summedUp_34 : decode cX12_summedUp 34 = .ok (.iadd, 1) := by decide +kernel
theorem dX12_summedUp_35 : decode cX12_summedUp 35 = .ok (.iaload, 1) := by decide +kernel
theorem dX12_summedUp_36 : decode cX12_summedUp 36 = .ok (.istore 7, 2) := by decide +kernel
theorem dX12_summedUp_38 : decode cX12_summedUp 38 = .ok (.iload 7, 2) := by decide +kernel
theorem dX12_summedUp_40 : decode cX12_summedUp 40 = .ok (.aload_n 0, 1) := by decide +kernel
theorem dX12_summedUp_41 : decode cX12_summedUp 41 = .ok (.getfield 16, 3) := by decide +kernel
theorem dX12_summedUp_44 : decode cX12_summedUp 44 = .ok (.iload_n 3, 1) := by decide +kernel
theorem dX12_summedUp_45 : decode cX12_summedUp 45 = .ok (.iconst 2, 1) := by decide +kernel
theorem dX12_summedUp_46 : decode cX12_summedUp 46 = .ok (.iadd, 1) := by decide +kernel
theorem dX12_summedUp_47 : decode cX12_summedUp 47 = .ok (.iaload, 1) := by decide +kernel
theorem dX12_summedUp_48 : decode cX12_summedUp 48 = .ok (.if_icmp .ge 358, 3) := by decide +kernel
theorem dX12_summedUp_51 : decode cX12_summedUp 51 = .ok (.aload_n 0, 1) := by decide +kernel
theorem dX12_summedUp_52 : decode cX12_summedUp 52 = .ok (.getfield 16, 3) := by decide +kernel
theorem dX12_summedUp_55 : decode cX12_summedUp 55 = .ok (.iload 4, 2) := by decide +kernel
theorem dX12_summedUp_57 : decode cX12_summedUp 57 = .ok (.iconst 2, 1) := by decide +kernel
theorem dX12_summedUp_58 : decode cX12_summedUp 58 = .ok (.iload 7, 2) := by decide +kernel
theorem dX12_summedUp_60 : decode cX12_summedUp 60 = .ok (.imul, 1) := by decide +kernel
theorem dX12_summedUp_61 : decode cX12_summedUp 61 = .ok (.iadd, 1) := by decide +kernel
theorem dX12_summedUp_62 : decode cX12_summedUp 62 = .ok (.iaload, 1) := by decide +kernel
theorem dX12_summedUp_63 : decode cX12_summedUp 63 = .ok (.istore 8, 2) := by decide +kernel
theorem dX12_summedUp_65 : decode cX12_summedUp 65 = .ok (.aload_n 0, 1) := by decide +kernel
theorem dX12_summedUp_66 : decode cX12_summedUp 66 = .ok (.getfield 16, 3) := by decide +kernel
theorem dX12_summedUp_69 : decode cX12_summedUp 69 = .ok (.iload 4, 2) := by decide +kernel
theorem dX12_summedUp_71 : decode cX12_summedUp 71 = .ok (.iconst 2, 1) := by decide +kernel
theorem dX12_summedUp_72 : decode cX12_summedUp 72 = .ok (.iload 7, 2) := by decide +kernel
theorem dX12_summedUp_74 : decode cX12_summedUp 74 = .ok (.imul, 1) := by decide +kernel
theorem dX12_summedUp_75 : decode cX12_summedUp 75 = .ok (.iadd, 1) := by decide +kernel
theorem dX12_summedUp_76 : decode cX12_summedUp 76 = .ok (.iconst 1, 1) := by decide +kernel
theorem dX12_summedUp_77 : decode cX12_summedUp 77 = .ok (.iadd, 1) := by decide +kernel
theorem dX12_summedUp_78 : decode cX12_summedUp 78 = .ok (.iaload, 1) := by decide +kernel
theorem dX12_summedUp_79 : decode cX12_summedUp 79 = .ok (.istore 9, 2) := by decide +kernel
theorem dX12_summedUp_81 : decode cX12_summedUp 81 = .ok (.iload 8, 2) := by decide +kernel
theorem dX12_summedUp_83 : decode cX12_summedUp 83 = .ok (.iconst 1, 1) := by decide +kernel
theorem dX12_summedUp_84 : decode cX12_summedUp 84 = .ok (.if_icmp .gt 35, 3) := by decide +kernel
theorem dX12_summedUp_87 : decode cX12_summedUp 87 = .ok (.aload_n 0, 1) := by decide +kernel
theorem dX12_summedUp_88 : decode cX12_summedUp 88 = .ok (.getfield 35, 3) := by decide +kernel
theorem dX12_summedUp_91 : decode cX12_summedUp 91 = .ok (.iload 5, 2) := by decide +kernel
theorem dX12_summedUp_93 : decode cX12_summedUp 93 = .ok (.iload 8, 2) := by decide +kernel
theorem dX12_summedUp_95 : decode cX12_summedUp 95 = .ok (.ifCond .ne 9, 3) := by decide +kernel
theorem dX12_summedUp_98 : decode cX12_summedUp 98 = .ok (.iload 9, 2) := by decide +kernel
theorem dX12_summedUp_100 : decode cX12_summedUp 100 = .ok (.i2l, 1) := by decide +kernel
theorem dX12_summedUp_101 : decode cX12_summedUp 101 = .ok (.goto 11, 3) := by decide +kernel
theorem dX12_summedUp_104 : decode cX12_summedUp 104 = .ok (.aload_n 0, 1) := by decide +kernel
theorem dX12_summedUp_105 : decode cX12_summedUp 105 = .ok (.getfield 32, 3) := by decide +kernel
theorem dX12_summedUp_108 : decode cX12_summedUp 108 = .ok (.iload 9, 2) := by decide +kernel
theorem dX12_summedUp_110 : decode cX12_summedUp 110 = .ok (.iaload, 1) := by decide +kernel
theorem dX12_summedUp_111 : decode cX12_summedUp 111 = .ok (.i2l, 1) := by decide +kernel
theorem dX12_summedUp_112 : decode cX12_summedUp 112 = .ok (.lastore, 1) := by decide +kernel
theorem dX12_summedUp_113 : decode cX12_summedUp 113 = .ok (.iinc 5 1, 3) := by decide +kernel
theorem dX12_summedUp_116 : decode cX12_summedUp 116 = .ok (.goto 284, 3) := by decide +kernel
theorem dX12_summedUp_119 : decode cX12_summedUp 119 = .ok (.iload 8, 2) := by decide +kernel
theorem dX12_summedUp_121 : decode cX12_summedUp 121 = .ok (.iconst 3, 1) := by decide +kernel
theorem dX12_summedUp_122 : decode cX12_summedUp 122 = .ok (.if_icmp .ne 38, 3) := by decide +kernel
theorem dX12_summedUp_125 : decode cX12_summedUp 125 = .ok (.iinc 5 (-1), 3) := by decide +kernel
theorem dX12_summedUp_128 : decode cX12_summedUp 128 = .ok (.iinc 6 (-1), 3) := by decide +kernel
theorem dX12_summedUp_131 : decode cX12_summedUp 131 = .ok (.aload_n 0, 1) := by decide +kernel
theorem dX12_summedUp_132 : decode cX12_summedUp 132 = .ok (.getfield 39, 3) := by decide +kernel
theorem dX12_summedUp_135 : decode cX12_summedUp 135 = .ok (.iload 6, 2) := by decide +kernel
theorem dX12_summedUp_137 : decode cX12_summedUp 137 = .ok (.baload, 1) := by decide +kernel
theorem dX12_summedUp_138 : decode cX12_summedUp 138 = .ok (.ifCond .ne 262, 3) := by decide +kernel
theorem dX12_summedUp_141 : decode cX12_summedUp 141 = .ok (.aload_n 0, 1) := by decide +kernel
theorem dX12_summedUp_142 : decode cX12_summedUp 142 = .ok (.getfield 35, 3) := by decide +kernel
theorem dX12_summedUp_145 : decode cX12_summedUp 145 = .ok (.iload 5, 2) := by decide +kernel
theorem dX12_summedUp_147 : decode cX12_summedUp 147 = .ok (.iconst 1, 1) := by decide +kernel
theorem dX12_summedUp_148 : decode cX12_summedUp 148 = .ok (.isub, 1) := by decide +kernel
theorem dX12_summedUp_149 : decode cX12_summedUp 149 = .ok (.aload_n 0, 1) := by decide +kernel
theorem dX12_summedUp_150 : decode cX12_summedUp 150 = .ok (.getfield 35, 3) := by decide +kernel
theorem dX12_summedUp_153 : decode cX12_summedUp 153 = .ok (.iload 5, 2) := by decide +kernel
theorem dX12_summedUp_155 : decode cX12_summedUp 155 = .ok (.laload, 1) := by decide +kernel
theorem dX12_summedUp_156 : decode cX12_summedUp 156 = .ok (.lastore, 1) := by decide +kernel
theorem dX12_summedUp_157 : decode cX12_summedUp 157 = .ok (.goto 243, 3) := by decide +kernel
theorem dX12_summedUp_160 : decode cX12_summedUp 160 = .ok (.iload 8, 2) := by decide +kernel
theorem dX12_summedUp_162 : decode cX12_summedUp 162 = .ok (.iconst 5, 1) := by decide +kernel
theorem dX12_summedUp_163 : decode cX12_summedUp 163 = .ok (.if_icmp .eq 9, 3) := by decide +kernel
theorem dX12_summedUp_166 : decode cX12_summedUp 166 = .ok (.iload 8, 2) := by decide +kernel
theorem dX12_summedUp_168 : decode cX12_summedUp 168 = .ok (.iconst 2, 1) := by decide +kernel
theorem dX12_summedUp_169 : decode cX12_summedUp 169 = .ok (.if_icmp .ne 47, 3) := by decide +kernel
theorem dX12_summedUp_172 : decode cX12_summedUp 172 = .ok (.aload_n 0, 1) := by decide +kernel
theorem dX12_summedUp_173 : decode cX12_summedUp 173 = .ok (.getfield 35, 3) := by decide +kernel
theorem dX12_summedUp_176 : decode cX12_summedUp 176 = .ok (.iload 5, 2) := by decide +kernel
theorem dX12_summedUp_178 : decode cX12_summedUp 178 = .ok (.iconst 1, 1) := by decide +kernel
theorem dX12_summedUp_179 : decode cX12_summedUp 179 = .ok (.isub, 1) := by decide +kernel
theorem dX12_summedUp_180 : decode cX12_summedUp 180 = .ok (.iload 8, 2) := by decide +kernel
theorem dX12_summedUp_182 : decode cX12_summedUp 182 = .ok (.iconst 5, 1) := by decide +kernel
theorem dX12_summedUp_183 : decode cX12_summedUp 183 = .ok (.if_icmp .ne 16, 3) := by decide +kernel
theorem dX12_summedUp_186 : decode cX12_summedUp 186 = .ok (.aload_n 0, 1) := by decide +kernel
theorem dX12_summedUp_187 : decode cX12_summedUp 187 = .ok (.getfield 35, 3) := by decide +kernel
theorem dX12_summedUp_190 : decode cX12_summedUp 190 = .ok (.iload 5, 2) := by decide +kernel
theorem dX12_summedUp_192 : decode cX12_summedUp 192 = .ok (.iconst 1, 1) := by decide +kernel
theorem dX12_summedUp_193 : decode cX12_summedUp 193 = .ok (.isub, 1) := by decide +kernel
theorem dX12_summedUp_194 : decode cX12_summedUp 194 = .ok (.laload, 1) := by decide +kernel
theorem dX12_summedUp_195 : decode cX12_summedUp 195 = .ok (.lneg, 1) := by decide +kernel
theorem dX12_summedUp_196 : decode cX12_summedUp 196 = .ok (.goto 16, 3) := by decide +kernel
theorem dX12_summedUp_199 : decode cX12_summedUp 199 = .ok (.aload_n 0, 1) := by decide +kernel
theorem dX12_summedUp_200 : decode cX12_summedUp 200 = .ok (.aload_n 0, 1) := by decide +kernel
theorem dX12_summedUp_201 : decode cX12_summedUp 201 = .ok (.getfield 35, 3) := by decide +kernel
theorem dX12_summedUp_204 : decode cX12_summedUp 204 = .ok (.iload 5, 2) := by decide +kernel
theorem dX12_summedUp_206 : decode cX12_summedUp 206 = .ok (.iconst 1, 1) := by decide +kernel
theorem dX12_summedUp_207 : decode cX12_summedUp 207 = .ok (.isub, 1) := by decide +kernel
theorem dX12_summedUp_208 : decode cX12_summedUp 208 = .ok (.laload, 1) := by decide +kernel
theorem dX12_summedUp_209 : decode cX12_summedUp 209 = .ok (.invokevirtual 270, 3) := by decide +kernel
theorem dX12_summedUp_212 : decode cX12_summedUp 212 = .ok (.lastore, 1) := by decide +kernel
theorem dX12_summedUp_213 : decode cX12_summedUp 213 = .ok (.goto 187, 3) := by decide +kernel
theorem dX12_summedUp_216 : decode cX12_summedUp 216 = .ok (.iload 8, 2) := by decide +kernel
theorem dX12_summedUp_218 : decode cX12_summedUp 218 = .ok (.bipush 10, 2) := by decide +kernel
theorem dX12_summedUp_220 : decode cX12_summedUp 220 = .ok (.if_icmp .ge 67, 3) := by decide +kernel
theorem dX12_summedUp_223 : decode cX12_summedUp 223 = .ok (.iinc 5 (-1), 3) := by decide +kernel
theorem dX12_summedUp_226 : decode cX12_summedUp 226 = .ok (.aload_n 0, 1) := by decide +kernel
theorem dX12_summedUp_227 : decode cX12_summedUp 227 = .ok (.getfield 35, 3) := by decide +kernel
theorem dX12_summedUp_230 : decode cX12_summedUp 230 = .ok (.iload 5, 2) := by decide +kernel
theorem dX12_summedUp_232 : decode cX12_summedUp 232 = .ok (.iconst 1, 1) := by decide +kernel
theorem dX12_summedUp_233 : decode cX12_summedUp 233 = .ok (.isub, 1) := by decide +kernel
theorem dX12_summedUp_234 : decode cX12_summedUp 234 = .ok (.iload 8, 2) := by decide +kernel
theorem dX12_summedUp_236 : decode cX12_summedUp 236 = .ok (.iconst 4, 1) := by decide +kernel
theorem dX12_summedUp_237 : decode cX12_summedUp 237 = .ok (.if_icmp .ne 25, 3) := by decide +kernel
theorem dX12_summedUp_240 : decode cX12_summedUp 240 = .ok (.aload_n 0, 1) := by decide +kernel
theorem dX12_summedUp_241 : decode cX12_summedUp 241 = .ok (.getfield 35, 3) := by decide +kernel
theorem dX12_summedUp_244 : decode cX12_summedUp 244 = .ok (.iload 5, 2) := by decide +kernel
theorem dX12_summedUp_246 : decode cX12_summedUp 246 = .ok (.iconst 1, 1) := by decide +kernel
theorem dX12_summedUp_247 : decode cX12_summedUp 247 = .ok (.isub, 1) := by decide +kernel
theorem dX12_summedUp_248 : decode cX12_summedUp 248 = .ok (.laload, 1) := by decide +kernel
theorem dX12_summedUp_249 : decode cX12_summedUp 249 = .ok (.aload_n 0, 1) := by decide +kernel
theorem dX12_summedUp_250 : decode cX12_summedUp 250 = .ok (.getfield 35, 3) := by decide +kernel
theorem dX12_summedUp_253 : decode cX12_summedUp 253 = .ok (.iload 5, 2) := by decide +kernel
theorem dX12_summedUp_255 : decode cX12_summedUp 255 = .ok (.laload, 1) := by decide +kernel
theorem dX12_summedUp_256 : decode cX12_summedUp 256 = .ok (.invokestatic 273, 3) := by decide +kernel
theorem dX12_summedUp_259 : decode cX12_summedUp 259 = .ok (.goto 24, 3) := by decide +kernel
theorem dX12_summedUp_262 : decode cX12_summedUp 262 = .ok (.iload 8, 2) := by decide +kernel
theorem dX12_summedUp_264 : decode cX12_summedUp 264 = .ok (.aload_n 0, 1) := by decide +kernel
theorem dX12_summedUp_265 : decode cX12_summedUp 265 = .ok (.getfield 35, 3) := by decide +kernel
theorem dX12_summedUp_268 : decode cX12_summedUp 268 = .ok (.iload 5, 2) := by decide +kernel
theorem dX12_summedUp_270 : decode cX12_summedUp 270 = .ok (.iconst 1, 1) := by decide +kernel
theorem dX12_summedUp_271 : decode cX12_summedUp 271 = .ok (.isub, 1) := by decide +kernel
theorem dX12_summedUp_272 : decode cX12_summedUp 272 = .ok (.laload, 1) := by decide +kernel
theorem dX12_summedUp_273 : decode cX12_summedUp 273 = .ok (.aload_n 0, 1) := by decide +kernel
theorem dX12_summedUp_274 : decode cX12_summedUp 274 = .ok (.getfield 35, 3) := by decide +kernel
theorem dX12_summedUp_277 : decode cX12_summedUp 277 = .ok (.iload 5, 2) := by decide +kernel
theorem dX12_summedUp_279 : decode cX12_summedUp 279 = .ok (.laload, 1) := by decide +kernel
theorem dX12_summedUp_280 : decode cX12_summedUp 280 = .ok (.invokestatic 277, 3) := by decide +kernel
theorem dX12_summedUp_283 : decode cX12_summedUp 283 = .ok (.lastore, 1) := by decide +kernel
theorem dX12_summedUp_284 : decode cX12_summedUp 284 = .ok (.goto 116, 3) := by decide +kernel
theorem dX12_summedUp_287 : decode cX12_summedUp 287 = .ok (.iload 8, 2) := by decide +kernel
theorem dX12_summedUp_289 : decode cX12_summedUp 289 = .ok (.bipush 20, 2) := by decide +kernel
theorem dX12_summedUp_291 : decode cX12_summedUp 291 = .ok (.if_icmp .ge 40, 3) := by decide +kernel
theorem dX12_summedUp_294 : decode cX12_summedUp 294 = .ok (.iinc 5 (-2), 3) := by decide +kernel
theorem dX12_summedUp_297 : decode cX12_summedUp 297 = .ok (.aload_n 0, 1) := by decide +kernel
theorem dX12_summedUp_298 : decode cX12_summedUp 298 = .ok (.getfield 39, 3) := by decide +kernel
theorem dX12_summedUp_301 : decode cX12_summedUp 301 = .ok (.iload 6, 2) := by decide +kernel
theorem dX12_summedUp_303 : decode cX12_summedUp 303 = .ok (.iload 8, 2) := by decide +kernel
theorem dX12_summedUp_305 : decode cX12_summedUp 305 = .ok (.aload_n 0, 1) := by decide +kernel
theorem dX12_summedUp_306 : decode cX12_summedUp 306 = .ok (.getfield 35, 3) := by decide +kernel
theorem dX12_summedUp_309 : decode cX12_summedUp 309 = .ok (.iload 5, 2) := by decide +kernel
theorem dX12_summedUp_311 : decode cX12_summedUp 311 = .ok (.laload, 1) := by decide +kernel
theorem dX12_summedUp_312 : decode cX12_summedUp 312 = .ok (.aload_n 0, 1) := by decide +kernel
theorem dX12_summedUp_313 : decode cX12_summedUp 313 = .ok (.getfield 35, 3) := by decide +kernel
theorem dX12_summedUp_316 : decode cX12_summedUp 316 = .ok (.iload 5, 2) := by decide +kernel
theorem dX12_summedUp_318 : decode cX12_summedUp 318 = .ok (.iconst 1, 1) := by decide +kernel
theorem dX12_summedUp_319 : decode cX12_summedUp 319 = .ok (.iadd, 1) := by decide +kernel
theorem dX12_summedUp_320 : decode cX12_summedUp 320 = .ok (.laload, 1) := by decide +kernel
theorem dX12_summedUp_321 : decode cX12_summedUp 321 = .ok (.invokestatic 281, 3) := by decide +kernel
theorem dX12_summedUp_324 : decode cX12_summedUp 324 = .ok (.bastore, 1) := by decide +kernel
theorem dX12_summedUp_325 : decode cX12_summedUp 325 = .ok (.iinc 6 1, 3) := by decide +kernel
theorem dX12_summedUp_328 : decode cX12_summedUp 328 = .ok (.goto 72, 3) := by decide +kernel
theorem dX12_summedUp_331 : decode cX12_summedUp 331 = .ok (.iload 8, 2) := by decide +kernel
theorem dX12_summedUp_333 : decode cX12_summedUp 333 = .ok (.bipush 20, 2) := by decide +kernel
theorem dX12_summedUp_335 : decode cX12_summedUp 335 = .ok (.if_icmp .ne 32, 3) := by decide +kernel
theorem dX12_summedUp_338 : decode cX12_summedUp 338 = .ok (.aload_n 0, 1) := by decide +kernel
theorem dX12_summedUp_339 : decode cX12_summedUp 339 = .ok (.getfield 39, 3) := by decide +kernel
theorem dX12_summedUp_342 : decode cX12_summedUp 342 = .ok (.iload 6, 2) := by decide +kernel
theorem dX12_summedUp_344 : decode cX12_summedUp 344 = .ok (.iconst 1, 1) := by decide +kernel
theorem dX12_summedUp_345 : decode cX12_summedUp 345 = .ok (.isub, 1) := by decide +kernel
theorem dX12_summedUp_346 : decode cX12_summedUp 346 = .ok (.aload_n 0, 1) := by decide +kernel
theorem dX12_summedUp_347 : decode cX12_summedUp 347 = .ok (.getfield 39, 3) := by decide +kernel
theorem dX12_summedUp_350 : decode cX12_summedUp 350 = .ok (.iload 6, 2) := by decide +kernel
theorem dX12_summedUp_352 : decode cX12_summedUp 352 = .ok (.iconst 1, 1) := by decide +kernel
theorem dX12_summedUp_353 : decode cX12_summedUp 353 = .ok (.isub, 1) := by decide +kernel
theorem dX12_summedUp_354 : decode cX12_summedUp 354 = .ok (.baload, 1) := by decide +kernel
theorem dX12_summedUp_355 : decode cX12_summedUp 355 = .ok (.ifCond .ne 7, 3) := by decide +kernel
theorem dX12_summedUp_358 : decode cX12_summedUp 358 = .ok (.iconst 1, 1) := by decide +kernel
theorem dX12_summedUp_359 : decode cX12_summedUp 359 = .ok (.goto 4, 3) := by decide +kernel
theorem dX12_summedUp_362 : decode cX12_summedUp 362 = .ok (.iconst 0, 1) := by decide +kernel
theorem dX12_summedUp_363 : decode cX12_summedUp 363 = .ok (.bastore, 1) := by decide +kernel
theorem dX12_summedUp_364 : decode cX12_summedUp 364 = .ok (.goto 36, 3) := by decide +kernel
theorem dX12_summedUp_367 : decode cX12_summedUp 367 = .ok (.iinc 6 (-1), 3) := by decide +kernel
theorem dX12_summedUp_370 : decode cX12_summedUp 370 = .ok (.aload_n 0, 1) := by decide +kernel
theorem dX12_summedUp_371 : decode cX12_summedUp 371 = .ok (.getfield 39, 3) := by decide +kernel
theorem dX12_summedUp_374 : decode cX12_summedUp 374 = .ok (.iload 6, 2) := by decide +kernel
theorem dX12_summedUp_376 : decode cX12_summedUp 376 = .ok (.iconst 1, 1) := by decide +kernel
theorem dX12_summedUp_377 : decode cX12_summedUp 377 = .ok (.isub, 1) := by decide +kernel
theorem dX12_summedUp_378 : decode cX12_summedUp 378 = .ok (.iload 8, 2) := by decide +kernel
theorem dX12_summedUp_380 : decode cX12_summedUp 380 = .ok (.aload_n 0, 1) := by decide +kernel
theorem dX12_summedUp_381 : decode cX12_summedUp 381 = .ok (.getfield 39, 3) := by decide +kernel
theorem dX12_summedUp_384 : decode cX12_summedUp 384 = .ok (.iload 6, 2) := by decide +kernel
theorem dX12_summedUp_386 : decode cX12_summedUp 386 = .ok (.iconst 1, 1) := by decide +kernel
theorem dX12_summedUp_387 : decode cX12_summedUp 387 = .ok (.isub, 1) := by decide +kernel
theorem dX12_summedUp_388 : decode cX12_summedUp 388 = .ok (.baload, 1) := by decide +kernel
theorem dX12_summedUp_389 : decode cX12_summedUp 389 = .ok (.aload_n 0, 1) := by decide +kernel
theorem dX12_summedUp_390 : decode cX12_summedUp 390 = .ok (.getfield 39, 3) := by decide +kernel
theorem dX12_summedUp_393 : decode cX12_summedUp 393 = .ok (.iload 6, 2) := by decide +kernel
theorem dX12_summedUp_395 : decode cX12_summedUp 395 = .ok (.baload, 1) := by decide +kernel
theorem dX12_summedUp_396 : decode cX12_summedUp 396 = .ok (.invokestatic 285, 3) := by decide +kernel
theorem dX12_summedUp_399 : decode cX12_summedUp 399 = .ok (.bastore, 1) := by decide +kernel
theorem dX12_summedUp_400 : decode cX12_summedUp 400 = .ok (.iinc 7 1, 3) := by decide +kernel
theorem dX12_summedUp_403 : decode cX12_summedUp 403 = .ok (.goto (-365), 3) := by decide +kernel
theorem dX12_summedUp_406 : decode cX12_summedUp 406 = .ok (.aload_n 0, 1) := by decide +kernel
theorem dX12_summedUp_407 : decode cX12_summedUp 407 = .ok (.getfield 35, 3) := by decide +kernel
theorem dX12_summedUp_410 : decode cX12_summedUp 410 = .ok (.iconst 0, 1) := by decide +kernel
theorem dX12_summedUp_411 : decode cX12_summedUp 411 = .ok (.laload, 1) := by decide +kernel
theorem dX12_summedUp_412 : decode cX12_summedUp 412 = .ok (.lreturn, 1) := by decide +kernel
theorem dX12_says_0 : decode cX12_says 0 = .ok (.iconst 0, 1) := by decide +kernel
theorem dX12_says_1 : decode cX12_says 1 = .ok (.istore 5, 2) := by decide +kernel
theorem dX12_says_3 : decode cX12_says 3 = .ok (.iload_n 1, 1) := by decide +kernel
theorem dX12_says_4 : decode cX12_says 4 = .ok (.ifCond .lt 59, 3) := by decide +kernel
theorem dX12_says_7 : decode cX12_says 7 = .ok (.iload 5, 2) := by decide +kernel
theorem dX12_says_9 : decode cX12_says 9 = .ok (.aload_n 0, 1) := by decide +kernel
theorem dX12_says_10 : decode cX12_says 10 = .ok (.getfield 16, 3) := by decide +kernel
theorem dX12_says_13 : decode cX12_says 13 = .ok (.sipush 705, 3) := by decide +kernel
theorem dX12_says_16 : decode cX12_says 16 = .ok (.iload_n 1, 1) := by decide +kernel
theorem dX12_says_17 : decode cX12_says 17 = .ok (.imul, 1) := by decide +kernel
theorem dX12_says_18 : decode cX12_says 18 = .ok (.iaload, 1) := by decide +kernel
theorem dX12_says_19 : decode cX12_says 19 = .ok (.if_icmp .ge 44, 3) := by decide +kernel
theorem dX12_says_22 : decode cX12_says 22 = .ok (.aload_n 0, 1) := by decide +kernel
theorem dX12_says_23 : decode cX12_says 23 = .ok (.getfield 16, 3) := by decide +kernel
theorem dX12_says_26 : decode cX12_says 26 = .ok (.sipush 705, 3) := by decide +kernel
theorem dX12_says_29 : decode cX12_says 29 = .ok (.iload_n 1, 1) := by decide +kernel
theorem dX12_says_30 : decode cX12_says 30 = .ok (.imul, 1) := by decide +kernel
theorem dX12_says_31 : decode cX12_says 31 = .ok (.iconst 1, 1) := by decide +kernel
theorem dX12_says_32 : decode cX12_says 32 = .ok (.iadd, 1) := by decide +kernel
theorem dX12_says_33 : decode cX12_says 33 = .ok (.iconst 4, 1) := by decide +kernel
theorem dX12_says_34 : decode cX12_says 34 = .ok (.iload 5, 2) := by decide +kernel
theorem dX12_says_36 : decode cX12_says 36 = .ok (.imul, 1) := by decide +kernel
theorem dX12_says_37 : decode cX12_says 37 = .ok (.iadd, 1) := by decide +kernel
theorem dX12_says_38 : decode cX12_says 38 = .ok (.iaload, 1) := by decide +kernel
theorem dX12_says_39 : decode cX12_says 39 = .ok (.iload_n 2, 1) := by decide +kernel
theorem dX12_says_40 : decode cX12_says 40 = .ok (.if_icmp .ne 17, 3) := by decide +kernel
theorem dX12_says_43 : decode cX12_says 43 = .ok (.aload_n 0, 1) := by decide +kernel
theorem dX12_says_44 : decode cX12_says 44 = .ok (.iload_n 1, 1) := by decide +kernel
theorem dX12_says_45 : decode cX12_says 45 = .ok (.iload 5, 2) := by decide +kernel
theorem dX12_says_47 : decode cX12_says 47 = .ok (.invokevirtual 289, 3) := by decide +kernel
theorem dX12_says_50 : decode cX12_says 50 = .ok (.iconst 0, 1) := by decide +kernel
theorem dX12_says_51 : decode cX12_says 51 = .ok (.iload 4, 2) := by decide +kernel
theorem dX12_says_53 : decode cX12_says 53 = .ok (.invokestatic 292, 3) := by decide +kernel
theorem dX12_says_56 : decode cX12_says 56 = .ok (.ireturn, 1) := by decide +kernel
theorem dX12_says_57 : decode cX12_says 57 = .ok (.iinc 5 1, 3) := by decide +kernel
theorem dX12_says_60 : decode cX12_says 60 = .ok (.goto (-57), 3) := by decide +kernel
theorem dX12_says_63 : decode cX12_says 63 = .ok (.iload_n 3, 1) := by decide +kernel
theorem dX12_says_64 : decode cX12_says 64 = .ok (.i2l, 1) := by decide +kernel
theorem dX12_says_65 : decode cX12_says 65 = .ok (.iconst 0, 1) := by decide +kernel
theorem dX12_says_66 : decode cX12_says 66 = .ok (.iload 4, 2) := by decide +kernel
theorem dX12_says_68 : decode cX12_says 68 = .ok (.invokestatic 292, 3) := by decide +kernel
theorem dX12_says_71 : decode cX12_says 71 = .ok (.ireturn, 1) := by decide +kernel
theorem dX12_name_0 : decode cX12_name 0 = .ok (.aload_n 0, 1) := by decide +kernel
theorem dX12_name_1 : decode cX12_name 1 = .ok (.getfield 32, 3) := by decide +kernel
theorem dX12_name_4 : decode cX12_name 4 = .ok (.iconst 0, 1) := by decide +kernel
theorem dX12_name_5 : decode cX12_name 5 = .ok (.aload_n 0, 1) := by decide +kernel
theorem dX12_name_6 : decode cX12_name 6 = .ok (.getfield 7, 3) := by decide +kernel
theorem dX12_name_9 : decode cX12_name 9 = .ok (.bipush 7, 2) := by decide +kernel
theorem dX12_name_11 : decode cX12_name 11 = .ok (.iaload, 1) := by decide +kernel
theorem dX12_name_12 : decode cX12_name 12 = .ok (.iastore, 1) := by decide +kernel
theorem dX12_name_13 : decode cX12_name 13 = .ok (.aload_n 0, 1) := by decide +kernel
theorem dX12_name_14 : decode cX12_name 14 = .ok (.getfield 32, 3) := by decide +kernel
theorem dX12_name_17 : decode cX12_name 17 = .ok (.iconst 1, 1) := by decide +kernel
theorem dX12_name_18 : decode cX12_name 18 = .ok (.aload_n 0, 1) := by decide +kernel
theorem dX12_name_19 : decode cX12_name 19 = .ok (.iload_n 1, 1) := by decide +kernel
theorem dX12_name_20 : decode cX12_name 20 = .ok (.iconst 0, 1) := by decide +kernel
theorem dX12_name_21 : decode cX12_name 21 = .ok (.invokevirtual 68, 3) := by decide +kernel
theorem dX12_name_24 : decode cX12_name 24 = .ok (.iastore, 1) := by decide +kernel
theorem dX12_name_25 : decode cX12_name 25 = .ok (.aload_n 0, 1) := by decide +kernel
theorem dX12_name_26 : decode cX12_name 26 = .ok (.getfield 32, 3) := by decide +kernel
theorem dX12_name_29 : decode cX12_name 29 = .ok (.iconst 2, 1) := by decide +kernel
theorem dX12_name_30 : decode cX12_name 30 = .ok (.aload_n 0, 1) := by decide +kernel
theorem dX12_name_31 : decode cX12_name 31 = .ok (.iload_n 1, 1) := by decide +kernel
theorem dX12_name_32 : decode cX12_name 32 = .ok (.iconst 2, 1) := by decide +kernel
theorem dX12_name_33 : decode cX12_name 33 = .ok (.invokevirtual 68, 3) := by decide +kernel
theorem dX12_name_36 : decode cX12_name 36 = .ok (.iastore, 1) := by decide +kernel
theorem dX12_name_37 : decode cX12_name 37 = .ok (.aload_n 0, 1) := by decide +kernel
theorem dX12_name_38 : decode cX12_name 38 = .ok (.getfield 32, 3) := by decide +kernel
theorem dX12_name_41 : decode cX12_name 41 = .ok (.iconst 3, 1) := by decide +kernel
theorem dX12_name_42 : decode cX12_name 42 = .ok (.aload_n 0, 1) := by decide +kernel
theorem dX12_name_43 : decode cX12_name 43 = .ok (.iload_n 1, 1) := by decide +kernel
theorem dX12_name_44 : decode cX12_name 44 = .ok (.iconst 3, 1) := by decide +kernel
theorem dX12_name_45 : decode cX12_name 45 = .ok (.invokevirtual 68, 3) := by decide +kernel
theorem dX12_name_48 : decode cX12_name 48 = .ok (.iastore, 1) := by decide +kernel
theorem dX12_name_49 : decode cX12_name 49 = .ok (.aload_n 0, 1) := by decide +kernel
theorem dX12_name_50 : decode cX12_name 50 = .ok (.getfield 32, 3) := by decide +kernel
theorem dX12_name_53 : decode cX12_name 53 = .ok (.iconst 4, 1) := by decide +kernel
theorem dX12_name_54 : decode cX12_name 54 = .ok (.iload_n 1, 1) := by decide +kernel
theorem dX12_name_55 : decode cX12_name 55 = .ok (.iastore, 1) := by decide +kernel
theorem dX12_name_56 : decode cX12_name 56 = .ok (.return_, 1) := by decide +kernel
theorem dX12_bidOf_0 : decode cX12_bidOf 0 = .ok (.aload_n 0, 1) := by decide +kernel
theorem dX12_bidOf_1 : decode cX12_bidOf 1 = .ok (.iload_n 2, 1) := by decide +kernel
theorem dX12_bidOf_2 : decode cX12_bidOf 2 = .ok (.invokevirtual 296, 3) := by decide +kernel
theorem dX12_bidOf_5 : decode cX12_bidOf 5 = .ok (.aload_n 0, 1) := by decide +kernel
theorem dX12_bidOf_6 : decode cX12_bidOf 6 = .ok (.getfield 32, 3) := by decide +kernel
theorem dX12_bidOf_9 : decode cX12_bidOf 9 = .ok (.iconst 5, 1) := by decide +kernel
theorem dX12_bidOf_10 : decode cX12_bidOf 10 = .ok (.aload_n 0, 1) := by decide +kernel
theorem dX12_bidOf_11 : decode cX12_bidOf 11 = .ok (.iload_n 1, 1) := by decide +kernel
theorem dX12_bidOf_12 : decode cX12_bidOf 12 = .ok (.iconst 1, 1) := by decide +kernel
theorem dX12_bidOf_13 : decode cX12_bidOf 13 = .ok (.iload_n 2, 1) := by decide +kernel
theorem dX12_bidOf_14 : decode cX12_bidOf 14 = .ok (.iadd, 1) := by decide +kernel
theorem dX12_bidOf_15 : decode cX12_bidOf 15 = .ok (.invokevirtual 299, 3) := by decide +kernel
theorem dX12_bidOf_18 : decode cX12_bidOf 18 = .ok (.iastore, 1) := by decide +kernel
theorem dX12_bidOf_19 : decode cX12_bidOf 19 = .ok (.aload_n 0, 1) := by decide +kernel
theorem dX12_bidOf_20 : decode cX12_bidOf 20 = .ok (.getfield 32, 3) := by decide +kernel
theorem dX12_bidOf_23 : decode cX12_bidOf 23 = .ok (.bipush 6, 2) := by decide +kernel
theorem dX12_bidOf_25 : decode cX12_bidOf 25 = .ok (.aload_n 0, 1) := by decide +kernel
theorem dX12_bidOf_26 : decode cX12_bidOf 26 = .ok (.iload_n 1, 1) := by decide +kernel
theorem dX12_bidOf_27 : decode cX12_bidOf 27 = .ok (.iconst 0, 1) := by decide +kernel
theorem dX12_bidOf_28 : decode cX12_bidOf 28 = .ok (.invokevirtual 299, 3) := by decide +kernel
theorem dX12_bidOf_31 : decode cX12_bidOf 31 = .ok (.iastore, 1) := by decide +kernel
theorem dX12_bidOf_32 : decode cX12_bidOf 32 = .ok (.aload_n 0, 1) := by decide +kernel
theorem dX12_bidOf_33 : decode cX12_bidOf 33 = .ok (.getfield 32, 3) := by decide +kernel
theorem dX12_bidOf_36 : decode cX12_bidOf 36 = .ok (.bipush 7, 2) := by decide +kernel
theorem dX12_bidOf_38 : decode cX12_bidOf 38 = .ok (.iload_n 1, 1) := by decide +kernel
theorem dX12_bidOf_39 : decode cX12_bidOf 39 = .ok (.iastore, 1) := by decide +kernel
theorem dX12_bidOf_40 : decode cX12_bidOf 40 = .ok (.aload_n 0, 1) := by decide +kernel
theorem dX12_bidOf_41 : decode cX12_bidOf 41 = .ok (.getfield 32, 3) := by decide +kernel
theorem dX12_bidOf_44 : decode cX12_bidOf 44 = .ok (.bipush 8, 2) := by decide +kernel
theorem dX12_bidOf_46 : decode cX12_bidOf 46 = .ok (.aload_n 0, 1) := by decide +kernel
theorem dX12_bidOf_47 : decode cX12_bidOf 47 = .ok (.iload_n 1, 1) := by decide +kernel
theorem dX12_bidOf_48 : decode cX12_bidOf 48 = .ok (.invokevirtual 302, 3) := by decide +kernel
theorem dX12_bidOf_51 : decode cX12_bidOf 51 = .ok (.invokestatic 305, 3) := by decide +kernel
theorem dX12_bidOf_54 : decode cX12_bidOf 54 = .ok (.iastore, 1) := by decide +kernel
theorem dX12_bidOf_55 : decode cX12_bidOf 55 = .ok (.aload_n 0, 1) := by decide +kernel
theorem dX12_bidOf_56 : decode cX12_bidOf 56 = .ok (.aload_n 0, 1) := by decide +kernel
theorem dX12_bidOf_57 : decode cX12_bidOf 57 = .ok (.getfield 7, 3) := by decide +kernel
theorem dX12_bidOf_60 : decode cX12_bidOf 60 = .ok (.iconst 3, 1) := by decide +kernel
theorem dX12_bidOf_61 : decode cX12_bidOf 61 = .ok (.iaload, 1) := by decide +kernel
theorem dX12_bidOf_62 : decode cX12_bidOf 62 = .ok (.iconst 0, 1) := by decide +kernel
theorem dX12_bidOf_63 : decode cX12_bidOf 63 = .ok (.aload_n 0, 1) := by decide +kernel
theorem dX12_bidOf_64 : decode cX12_bidOf 64 = .ok (.getfield 32, 3) := by decide +kernel
theorem dX12_bidOf_67 : decode cX12_bidOf 67 = .ok (.iconst 5, 1) := by decide +kernel
theorem dX12_bidOf_68 : decode cX12_bidOf 68 = .ok (.iaload, 1) := by decide +kernel
theorem dX12_bidOf_69 : decode cX12_bidOf 69 = .ok (.ldc_w 308, 3) := by decide +kernel
theorem dX12_bidOf_72 : decode cX12_bidOf 72 = .ok (.invokevirtual 309, 3) := by decide +kernel
theorem dX12_bidOf_75 : decode cX12_bidOf 75 = .ok (.istore_n 3, 1) := by decide +kernel
theorem dX12_bidOf_76 : decode cX12_bidOf 76 = .ok (.iload_n 3, 1) := by decide +kernel
theorem dX12_bidOf_77 : decode cX12_bidOf 77 = .ok (.aload_n 0, 1) := by decide +kernel
theorem dX12_bidOf_78 : decode cX12_bidOf 78 = .ok (.getfield 32, 3) := by decide +kernel
theorem dX12_bidOf_81 : decode cX12_bidOf 81 = .ok (.bipush 6, 2) := by decide +kernel
theorem dX12_bidOf_83 : decode cX12_bidOf 83 = .ok (.iaload, 1) := by decide +kernel
theorem dX12_bidOf_84 : decode cX12_bidOf 84 = .ok (.if_icmp .ge 7, 3) := by decide +kernel
theorem dX12_bidOf_87 : decode cX12_bidOf 87 = .ok (.iload_n 3, 1) := by decide +kernel
theorem dX12_bidOf_88 : decode cX12_bidOf 88 = .ok (.goto 10, 3) := by decide +kernel
theorem dX12_bidOf_91 : decode cX12_bidOf 91 = .ok (.aload_n 0, 1) := by decide +kernel
theorem dX12_bidOf_92 : decode cX12_bidOf 92 = .ok (.getfield 32, 3) := by decide +kernel
theorem dX12_bidOf_95 : decode cX12_bidOf 95 = .ok (.bipush 6, 2) := by decide +kernel
theorem dX12_bidOf_97 : decode cX12_bidOf 97 = .ok (.iaload, 1) := by decide +kernel
theorem dX12_bidOf_98 : decode cX12_bidOf 98 = .ok (.ireturn, 1) := by decide +kernel
theorem dX12_reserveOf_0 : decode cX12_reserveOf 0 = .ok (.aload_n 0, 1) := by decide +kernel
theorem dX12_reserveOf_1 : decode cX12_reserveOf 1 = .ok (.iload_n 1, 1) := by decide +kernel
theorem dX12_reserveOf_2 : decode cX12_reserveOf 2 = .ok (.invokevirtual 296, 3) := by decide +kernel
theorem dX12_reserveOf_5 : decode cX12_reserveOf 5 = .ok (.aload_n 0, 1) := by decide +kernel
theorem dX12_reserveOf_6 : decode cX12_reserveOf 6 = .ok (.aload_n 0, 1) := by decide +kernel
theorem dX12_reserveOf_7 : decode cX12_reserveOf 7 = .ok (.getfield 7, 3) := by decide +kernel
theorem dX12_reserveOf_10 : decode cX12_reserveOf 10 = .ok (.iconst 3, 1) := by decide +kernel
theorem dX12_reserveOf_11 : decode cX12_reserveOf 11 = .ok (.iaload, 1) := by decide +kernel
theorem dX12_reserveOf_12 : decode cX12_reserveOf 12 = .ok (.iconst 1, 1) := by decide +kernel
theorem dX12_reserveOf_13 : decode cX12_reserveOf 13 = .ok (.aload_n 0, 1) := by decide +kernel
theorem dX12_reserveOf_14 : decode cX12_reserveOf 14 = .ok (.getfield 32, 3) := by decide +kernel
theorem dX12_reserveOf_17 : decode cX12_reserveOf 17 = .ok (.iconst 2, 1) := by decide +kernel
theorem dX12_reserveOf_18 : decode cX12_reserveOf 18 = .ok (.iaload, 1) := by decide +kernel
theorem dX12_reserveOf_19 : decode cX12_reserveOf 19 = .ok (.iconst 2, 1) := by decide +kernel
theorem dX12_reserveOf_20 : decode cX12_reserveOf 20 = .ok (.idiv, 1) := by decide +kernel
theorem dX12_reserveOf_21 : decode cX12_reserveOf 21 = .ok (.sipush 999, 3) := by decide +kernel
theorem dX12_reserveOf_24 : decode cX12_reserveOf 24 = .ok (.invokevirtual 309, 3) := by decide +kernel
theorem dX12_reserveOf_27 : decode cX12_reserveOf 27 = .ok (.ireturn, 1) := by decide +kernel
theorem dX12_warmsOf_0 : decode cX12_warmsOf 0 = .ok (.aload_n 0, 1) := by decide +kernel
theorem dX12_warmsOf_1 : decode cX12_warmsOf 1 = .ok (.iload_n 2, 1) := by decide +kernel
theorem dX12_warmsOf_2 : decode cX12_warmsOf 2 = .ok (.invokevirtual 296, 3) := by decide +kernel
theorem dX12_warmsOf_5 : decode cX12_warmsOf 5 = .ok (.aload_n 0, 1) := by decide +kernel
theorem dX12_warmsOf_6 : decode cX12_warmsOf 6 = .ok (.iload_n 1, 1) := by decide +kernel
theorem dX12_warmsOf_7 : decode cX12_warmsOf 7 = .ok (.iconst 2, 1) := by decide +kernel
theorem dX12_warmsOf_8 : decode cX12_warmsOf 8 = .ok (.iconst 3, 1) := by decide +kernel
theorem dX12_warmsOf_9 : decode cX12_warmsOf 9 = .ok (.bipush 10, 2) := by decide +kernel
theorem dX12_warmsOf_11 : decode cX12_warmsOf 11 = .ok (.invokevirtual 309, 3) := by decide +kernel
theorem dX12_warmsOf_14 : decode cX12_warmsOf 14 = .ok (.ireturn, 1) := by decide +kernel
theorem dX12_write_0 : decode cX12_write 0 = .ok (.aload_n 0, 1) := by decide +kernel
theorem dX12_write_1 : decode cX12_write 1 = .ok (.getfield 43, 3) := by decide +kernel
theorem dX12_write_4 : decode cX12_write 4 = .ok (.ifCond .ne 4, 3) := by decide +kernel
theorem dX12_write_7 : decode cX12_write 7 = .ok (.return_, 1) := by decide +kernel
theorem dX12_write_8 : decode cX12_write 8 = .ok (.aload_n 0, 1) := by decide +kernel
theorem dX12_write_9 : decode cX12_write 9 = .ok (.getfield 7, 3) := by decide +kernel
theorem dX12_write_12 : decode cX12_write 12 = .ok (.bipush 10, 2) := by decide +kernel
theorem dX12_write_14 : decode cX12_write 14 = .ok (.iaload, 1) := by decide +kernel
theorem dX12_write_15 : decode cX12_write 15 = .ok (.bipush 30, 2) := by decide +kernel
theorem dX12_write_17 : decode cX12_write 17 = .ok (.if_icmp .ne 54, 3) := by decide +kernel
theorem dX12_write_20 : decode cX12_write 20 = .ok (.iconst 2, 1) := by decide +kernel
theorem dX12_write_21 : decode cX12_write 21 = .ok (.istore 4, 2) := by decide +kernel
theorem dX12_write_23 : decode cX12_write 23 = .ok (.iload 4, 2) := by decide +kernel
theorem dX12_write_25 : decode cX12_write 25 = .ok (.bipush 60, 2) := by decide +kernel
theorem dX12_write_27 : decode cX12_write 27 = .ok (.if_icmp .ge 33, 3) := by decide +kernel
theorem dX12_write_30 : decode cX12_write 30 = .ok (.aload_n 0, 1) := by decide +kernel
theorem dX12_write_31 : decode cX12_write 31 = .ok (.getfield 7, 3) := by decide +kernel
theorem dX12_write_34 : decode cX12_write 34 = .ok (.sipush 4843, 3) := by decide +kernel
theorem dX12_write_37 : decode cX12_write 37 = .ok (.iload 4, 2) := by decide +kernel
theorem dX12_write_39 : decode cX12_write 39 = .ok (.iadd, 1) := by decide +kernel
theorem dX12_write_40 : decode cX12_write 40 = .ok (.iconst 2, 1) := by decide +kernel
theorem dX12_write_41 : decode cX12_write 41 = .ok (.isub, 1) := by decide +kernel
theorem dX12_write_42 : decode cX12_write 42 = .ok (.aload_n 0, 1) := by decide +kernel
theorem dX12_write_43 : decode cX12_write 43 = .ok (.getfield 7, 3) := by decide +kernel
theorem dX12_write_46 : decode cX12_write 46 = .ok (.sipush 4843, 3) := by decide +kernel
theorem dX12_write_49 : decode cX12_write 49 = .ok (.iload 4, 2) := by decide +kernel
theorem dX12_write_51 : decode cX12_write 51 = .ok (.iadd, 1) := by decide +kernel
theorem dX12_write_52 : decode cX12_write 52 = .ok (.iaload, 1) := by decide +kernel
theorem dX12_write_53 : decode cX12_write 53 = .ok (.iastore, 1) := by decide +kernel
theorem dX12_write_54 : decode cX12_write 54 = .ok (.iinc 4 1, 3) := by decide +kernel
theorem dX12_write_57 : decode cX12_write 57 = .ok (.goto (-34), 3) := by decide +kernel
theorem dX12_write_60 : decode cX12_write 60 = .ok (.aload_n 0, 1) := by decide +kernel
theorem dX12_write_61 : decode cX12_write 61 = .ok (.getfield 7, 3) := by decide +kernel
theorem dX12_write_64 : decode cX12_write 64 = .ok (.bipush 10, 2) := by decide +kernel
theorem dX12_write_66 : decode cX12_write 66 = .ok (.dup2, 1) := by decide +kernel
theorem dX12_write_67 : decode cX12_write 67 = .ok (.iaload, 1) := by decide +kernel
theorem dX12_write_68 : decode cX12_write 68 = .ok (.iconst 1, 1) := by decide +kernel
theorem dX12_write_69 : decode cX12_write 69 = .ok (.isub, 1) := by decide +kernel
theorem dX12_write_70 : decode cX12_write 70 = .ok (.iastore, 1) := by decide +kernel
theorem dX12_write_71 : decode cX12_write 71 = .ok (.aload_n 0, 1) := by decide +kernel
theorem dX12_write_72 : decode cX12_write 72 = .ok (.getfield 7, 3) := by decide +kernel
theorem dX12_write_75 : decode cX12_write 75 = .ok (.sipush 4843, 3) := by decide +kernel
theorem dX12_write_78 : decode cX12_write 78 = .ok (.iconst 2, 1) := by decide +kernel
theorem dX12_write_79 : decode cX12_write 79 = .ok (.aload_n 0, 1) := by decide +kernel
theorem dX12_write_80 : decode cX12_write 80 = .ok (.getfield 7, 3) := by decide +kernel
theorem dX12_write_83 : decode cX12_write 83 = .ok (.bipush 10, 2) := by decide +kernel
theorem dX12_write_85 : decode cX12_write 85 = .ok (.iaload, 1) := by decide +kernel
theorem dX12_write_86 : decode cX12_write 86 = .ok (.imul, 1) := by decide +kernel
theorem dX12_write_87 : decode cX12_write 87 = .ok (.iadd, 1) := by decide +kernel
theorem dX12_write_88 : decode cX12_write 88 = .ok (.aload_n 0, 1) := by decide +kernel
theorem dX12_write_89 : decode cX12_write 89 = .ok (.getfield 7, 3) := by decide +kernel
theorem dX12_write_92 : decode cX12_write 92 = .ok (.bipush 7, 2) := by decide +kernel
theorem dX12_write_94 : decode cX12_write 94 = .ok (.iaload, 1) := by decide +kernel
theorem dX12_write_95 : decode cX12_write 95 = .ok (.bipush 16, 2) := by decide +kernel
theorem dX12_write_97 : decode cX12_write 97 = .ok (.imul, 1) := by decide +kernel
theorem dX12_write_98 : decode cX12_write 98 = .ok (.iload_n 1, 1) := by decide +kernel
theorem dX12_write_99 : decode cX12_write 99 = .ok (.iadd, 1) := by decide +kernel
theorem dX12_write_100 : decode cX12_write 100 = .ok (.bipush 8, 2) := by decide +kernel
theorem dX12_write_102 : decode cX12_write 102 = .ok (.imul, 1) := by decide +kernel
theorem dX12_write_103 : decode cX12_write 103 = .ok (.iload_n 2, 1) := by decide +kernel
theorem dX12_write_104 : decode cX12_write 104 = .ok (.iadd, 1) := by decide +kernel
theorem dX12_write_105 : decode cX12_write 105 = .ok (.iastore, 1) := by decide +kernel
theorem dX12_write_106 : decode cX12_write 106 = .ok (.aload_n 0, 1) := by decide +kernel
theorem dX12_write_107 : decode cX12_write 107 = .ok (.getfield 7, 3) := by decide +kernel
theorem dX12_write_110 : decode cX12_write 110 = .ok (.sipush 4843, 3) := by decide +kernel
theorem dX12_write_113 : decode cX12_write 113 = .ok (.iconst 2, 1) := by decide +kernel
theorem dX12_write_114 : decode cX12_write 114 = .ok (.aload_n 0, 1) := by decide +kernel
theorem dX12_write_115 : decode cX12_write 115 = .ok (.getfield 7, 3) := by decide +kernel
theorem dX12_write_118 : decode cX12_write 118 = .ok (.bipush 10, 2) := by decide +kernel
theorem dX12_write_120 : decode cX12_write 120 = .ok (.iaload, 1) := by decide +kernel
theorem dX12_write_121 : decode cX12_write 121 = .ok (.imul, 1) := by decide +kernel
theorem dX12_write_122 : decode cX12_write 122 = .ok (.iadd, 1) := by decide +kernel
theorem dX12_write_123 : decode cX12_write 123 = .ok (.iconst 1, 1) := by decide +kernel
theorem dX12_write_124 : decode cX12_write 124 = .ok (.iadd, 1) := by decide +kernel
theorem dX12_write_125 : decode cX12_write 125 = .ok (.iload_n 3, 1) := by decide +kernel
theorem dX12_write_126 : decode cX12_write 126 = .ok (.iastore, 1) := by decide +kernel
theorem dX12_write_127 : decode cX12_write 127 = .ok (.aload_n 0, 1) := by decide +kernel
theorem dX12_write_128 : decode cX12_write 128 = .ok (.getfield 7, 3) := by decide +kernel
theorem dX12_write_131 : decode cX12_write 131 = .ok (.bipush 10, 2) := by decide +kernel
theorem dX12_write_133 : decode cX12_write 133 = .ok (.dup2, 1) := by decide +kernel
theorem dX12_write_134 : decode cX12_write 134 = .ok (.iaload, 1) := by decide +kernel
theorem dX12_write_135 : decode cX12_write 135 = .ok (.iconst 1, 1) := by decide +kernel
theorem dX12_write_136 : decode cX12_write 136 = .ok (.iadd, 1) := by decide +kernel
theorem dX12_write_137 : decode cX12_write 137 = .ok (.iastore, 1) := by decide +kernel
theorem dX12_write_138 : decode cX12_write 138 = .ok (.return_, 1) := by decide +kernel
theorem dX12_anew_0 : decode cX12_anew 0 = .ok (.aload_n 0, 1) := by decide +kernel
theorem dX12_anew_1 : decode cX12_anew 1 = .ok (.getfield 7, 3) := by decide +kernel
theorem dX12_anew_4 : decode cX12_anew 4 = .ok (.bipush 9, 2) := by decide +kernel
theorem dX12_anew_6 : decode cX12_anew 6 = .ok (.aload_n 0, 1) := by decide +kernel
theorem dX12_anew_7 : decode cX12_anew 7 = .ok (.getfield 7, 3) := by decide +kernel
theorem dX12_anew_10 : decode cX12_anew 10 = .ok (.bipush 9, 2) := by decide +kernel
theorem dX12_anew_12 : decode cX12_anew 12 = .ok (.iaload, 1) := by decide +kernel
theorem dX12_anew_13 : decode cX12_anew 13 = .ok (.i2l, 1) := by decide +kernel
theorem dX12_anew_14 : decode cX12_anew 14 = .ok (.ldc2_w 313, 3) := by decide +kernel
theorem dX12_anew_17 : decode cX12_anew 17 = .ok (.lmul, 1) := by decide +kernel
theorem dX12_anew_18 : decode cX12_anew 18 = .ok (.ldc2_w 315, 3) := by decide +kernel
theorem dX12_anew_21 : decode cX12_anew 21 = .ok (.ladd, 1) := by decide +kernel
theorem dX12_anew_22 : decode cX12_anew 22 = .ok (.ldc2_w 317, 3) := by decide +kernel
theorem dX12_anew_25 : decode cX12_anew 25 = .ok (.lrem, 1) := by decide +kernel
theorem dX12_anew_26 : decode cX12_anew 26 = .ok (.l2i, 1) := by decide +kernel
theorem dX12_anew_27 : decode cX12_anew 27 = .ok (.iastore, 1) := by decide +kernel
theorem dX12_anew_28 : decode cX12_anew 28 = .ok (.return_, 1) := by decide +kernel
theorem dX12_winnerOf_0 : decode cX12_winnerOf 0 = .ok (.iconst (-1), 1) := by decide +kernel
theorem dX12_winnerOf_1 : decode cX12_winnerOf 1 = .ok (.istore_n 2, 1) := by decide +kernel
theorem dX12_winnerOf_2 : decode cX12_winnerOf 2 = .ok (.iconst (-1), 1) := by decide +kernel
theorem dX12_winnerOf_3 : decode cX12_winnerOf 3 = .ok (.istore_n 3, 1) := by decide +kernel
theorem dX12_winnerOf_4 : decode cX12_winnerOf 4 = .ok (.iconst 0, 1) := by decide +kernel
theorem dX12_winnerOf_5 : decode cX12_winnerOf 5 = .ok (.istore 4, 2) := by decide +kernel
theorem dX12_winnerOf_7 : decode cX12_winnerOf 7 = .ok (.iload 4, 2) := by decide +kernel
theorem dX12_winnerOf_9 : decode cX12_winnerOf 9 = .ok (.aload_n 0, 1) := by decide +kernel
theorem dX12_winnerOf_10 : decode cX12_winnerOf 10 = .ok (.getfield 7, 3) := by decide +kernel
theorem dX12_winnerOf_13 : decode cX12_winnerOf 13 = .ok (.iconst 1, 1) := by decide +kernel
theorem dX12_winnerOf_14 : decode cX12_winnerOf 14 = .ok (.iaload, 1) := by decide +kernel
theorem dX12_winnerOf_15 : decode cX12_winnerOf 15 = .ok (.if_icmp .ge 33, 3) := by decide +kernel
theorem dX12_winnerOf_18 : decode cX12_winnerOf 18 = .ok (.aload_n 0, 1) := by decide +kernel
theorem dX12_winnerOf_19 : decode cX12_winnerOf 19 = .ok (.iload 4, 2) := by decide +kernel
theorem dX12_winnerOf_21 : decode cX12_winnerOf 21 = .ok (.iload_n 1, 1) := by decide +kernel
theorem dX12_winnerOf_22 : decode cX12_winnerOf 22 = .ok (.invokevirtual 319, 3) := by decide +kernel
theorem dX12_winnerOf_25 : decode cX12_winnerOf 25 = .ok (.istore 5, 2) := by decide +kernel
theorem dX12_winnerOf_27 : decode cX12_winnerOf 27 = .ok (.iload 5, 2) := by decide +kernel
theorem dX12_winnerOf_29 : decode cX12_winnerOf 29 = .ok (.iload_n 3, 1) := by decide +kernel
theorem dX12_winnerOf_30 : decode cX12_winnerOf 30 = .ok (.if_icmp .gt 6, 3) := by decide +kernel
theorem dX12_winnerOf_33 : decode cX12_winnerOf 33 = .ok (.goto 9, 3) := by decide +kernel
theorem dX12_winnerOf_36 : decode cX12_winnerOf 36 = .ok (.iload 5, 2) := by decide +kernel
theorem dX12_winnerOf_38 : decode cX12_winnerOf 38 = .ok (.istore_n 3, 1) := by decide +kernel
theorem dX12_winnerOf_39 : decode cX12_winnerOf 39 = .ok (.iload 4, 2) := by decide +kernel
theorem dX12_winnerOf_41 : decode cX12_winnerOf 41 = .ok (.istore_n 2, 1) := by decide +kernel
theorem dX12_winnerOf_42 : decode cX12_winnerOf 42 = .ok (.iinc 4 1, 3) := by decide +kernel
theorem dX12_winnerOf_45 : decode cX12_winnerOf 45 = .ok (.goto (-38), 3) := by decide +kernel
theorem dX12_winnerOf_48 : decode cX12_winnerOf 48 = .ok (.iload_n 2, 1) := by decide +kernel
theorem dX12_winnerOf_49 : decode cX12_winnerOf 49 = .ok (.iconst (-1), 1) := by decide +kernel
theorem dX12_winnerOf_50 : decode cX12_winnerOf 50 = .ok (.if_icmp .eq 16, 3) := by decide +kernel
theorem dX12_winnerOf_53 : decode cX12_winnerOf 53 = .ok (.iload_n 3, 1) := by decide +kernel
theorem dX12_winnerOf_54 : decode cX12_winnerOf 54 = .ok (.aload_n 0, 1) := by decide +kernel
theorem dX12_winnerOf_55 : decode cX12_winnerOf 55 = .ok (.iload_n 1, 1) := by decide +kernel
theorem dX12_winnerOf_56 : decode cX12_winnerOf 56 = .ok (.invokevirtual 322, 3) := by decide +kernel
theorem dX12_winnerOf_59 : decode cX12_winnerOf 59 = .ok (.if_icmp .lt 7, 3) := by decide +kernel
theorem dX12_winnerOf_62 : decode cX12_winnerOf 62 = .ok (.iload_n 2, 1) := by decide +kernel
theorem dX12_winnerOf_63 : decode cX12_winnerOf 63 = .ok (.goto 4, 3) := by decide +kernel
theorem dX12_winnerOf_66 : decode cX12_winnerOf 66 = .ok (.iconst (-1), 1) := by decide +kernel
theorem dX12_winnerOf_67 : decode cX12_winnerOf 67 = .ok (.ireturn, 1) := by decide +kernel
theorem dX12_priceOf_0 : decode cX12_priceOf 0 = .ok (.aload_n 0, 1) := by decide +kernel
theorem dX12_priceOf_1 : decode cX12_priceOf 1 = .ok (.iload_n 1, 1) := by decide +kernel
theorem dX12_priceOf_2 : decode cX12_priceOf 2 = .ok (.invokevirtual 322, 3) := by decide +kernel
theorem dX12_priceOf_5 : decode cX12_priceOf 5 = .ok (.istore_n 3, 1) := by decide +kernel
theorem dX12_priceOf_6 : decode cX12_priceOf 6 = .ok (.iconst 0, 1) := by decide +kernel
theorem dX12_priceOf_7 : decode cX12_priceOf 7 = .ok (.istore 4, 2) := by decide +kernel
theorem dX12_priceOf_9 : decode cX12_priceOf 9 = .ok (.iload 4, 2) := by decide +kernel
theorem dX12_priceOf_11 : decode cX12_priceOf 11 = .ok (.aload_n 0, 1) := by decide +kernel
theorem dX12_priceOf_12 : decode cX12_priceOf 12 = .ok (.getfield 7, 3) := by decide +kernel
theorem dX12_priceOf_15 : decode cX12_priceOf 15 = .ok (.iconst 1, 1) := by decide +kernel
theorem dX12_priceOf_16 : decode cX12_priceOf 16 = .ok (.iaload, 1) := by decide +kernel
theorem dX12_priceOf_17 : decode cX12_priceOf 17 = .ok (.if_icmp .ge 41, 3) := by decide +kernel
theorem dX12_priceOf_20 : decode cX12_priceOf 20 = .ok (.iload 4, 2) := by decide +kernel
theorem dX12_priceOf_22 : decode cX12_priceOf 22 = .ok (.iload_n 2, 1) := by decide +kernel
theorem dX12_priceOf_23 : decode cX12_priceOf 23 = .ok (.if_icmp .ne 7, 3) := by decide +kernel
theorem dX12_priceOf_26 : decode cX12_priceOf 26 = .ok (.iconst 0, 1) := by decide +kernel
theorem dX12_priceOf_27 : decode cX12_priceOf 27 = .ok (.goto 10, 3) := by decide +kernel
theorem dX12_priceOf_30 : decode cX12_priceOf 30 = .ok (.aload_n 0, 1) := by decide +kernel
theorem dX12_priceOf_31 : decode cX12_priceOf 31 = .ok (.iload 4, 2) := by decide +kernel
theorem dX12_priceOf_33 : decode cX12_priceOf 33 = .ok (.iload_n 1, 1) := by decide +kernel
theorem dX12_priceOf_34 : decode cX12_priceOf 34 = .ok (.invokevirtual 319, 3) := by decide +kernel
theorem dX12_priceOf_37 : decode cX12_priceOf 37 = .ok (.istore 5, 2) := by decide +kernel
theorem dX12_priceOf_39 : decode cX12_priceOf 39 = .ok (.iload 5, 2) := by decide +kernel
theorem dX12_priceOf_41 : decode cX12_priceOf 41 = .ok (.iload_n 3, 1) := by decide +kernel
theorem dX12_priceOf_42 : decode cX12_priceOf 42 = .ok (.if_icmp .le 8, 3) := by decide +kernel
theorem dX12_priceOf_45 : decode cX12_priceOf 45 = .ok (.iload 5, 2) := by decide +kernel
theorem dX12_priceOf_47 : decode cX12_priceOf 47 = .ok (.goto 4, 3) := by decide +kernel
theorem dX12_priceOf_50 : decode cX12_priceOf 50 = .ok (.iload_n 3, 1) := by decide +kernel
theorem dX12_priceOf_51 : decode cX12_priceOf 51 = .ok (.istore_n 3, 1) := by decide +kernel
theorem dX12_priceOf_52 : decode cX12_priceOf 52 = .ok (.iinc 4 1, 3) := by decide +kernel
theorem dX12_priceOf_55 : decode cX12_priceOf 55 = .ok (.goto (-46), 3) := by decide +kernel
theorem dX12_priceOf_58 : decode cX12_priceOf 58 = .ok (.iload_n 3, 1) := by decide +kernel
theorem dX12_priceOf_59 : decode cX12_priceOf 59 = .ok (.ireturn, 1) := by decide +kernel
theorem dX12_sellNow_0 : decode cX12_sellNow 0 = .ok (.aload_n 0, 1) := by decide +kernel
theorem dX12_sellNow_1 : decode cX12_sellNow 1 = .ok (.iload_n 1, 1) := by decide +kernel
theorem dX12_sellNow_2 : decode cX12_sellNow 2 = .ok (.invokevirtual 325, 3) := by decide +kernel
theorem dX12_sellNow_5 : decode cX12_sellNow 5 = .ok (.istore_n 2, 1) := by decide +kernel
theorem dX12_sellNow_6 : decode cX12_sellNow 6 = .ok (.iload_n 2, 1) := by decide +kernel
theorem dX12_sellNow_7 : decode cX12_sellNow 7 = .ok (.iconst (-1), 1) := by decide +kernel
theorem dX12_sellNow_8 : decode cX12_sellNow 8 = .ok (.if_icmp .ne 5, 3) := by decide +kernel
theorem dX12_sellNow_11 : decode cX12_sellNow 11 = .ok (.iconst (-1), 1) := by decide +kernel
theorem dX12_sellNow_12 : decode cX12_sellNow 12 = .ok (.ireturn, 1) := by decide +kernel
theorem dX12_sellNow_13 : decode cX12_sellNow 13 = .ok (.aload_n 0, 1) := by decide +kernel
theorem dX12_sellNow_14 : decode cX12_sellNow 14 = .ok (.iload_n 1, 1) := by decide +kernel
theorem dX12_sellNow_15 : decode cX12_sellNow 15 = .ok (.iload_n 2, 1) := by decide +kernel
theorem dX12_sellNow_16 : decode cX12_sellNow 16 = .ok (.invokevirtual 328, 3) := by decide +kernel
theorem dX12_sellNow_19 : decode cX12_sellNow 19 = .ok (.istore_n 3, 1) := by decide +kernel
theorem dX12_sellNow_20 : decode cX12_sellNow 20 = .ok (.aload_n 0, 1) := by decide +kernel
theorem dX12_sellNow_21 : decode cX12_sellNow 21 = .ok (.iload_n 2, 1) := by decide +kernel
theorem dX12_sellNow_22 : decode cX12_sellNow 22 = .ok (.iconst 0, 1) := by decide +kernel
theorem dX12_sellNow_23 : decode cX12_sellNow 23 = .ok (.aload_n 0, 1) := by decide +kernel
theorem dX12_sellNow_24 : decode cX12_sellNow 24 = .ok (.iload_n 2, 1) := by decide +kernel
theorem dX12_sellNow_25 : decode cX12_sellNow 25 = .ok (.iconst 0, 1) := by decide +kernel
theorem dX12_sellNow_26 : decode cX12_sellNow 26 = .ok (.invokevirtual 299, 3) := by decide +kernel
theorem dX12_sellNow_29 : decode cX12_sellNow 29 = .ok (.iload_n 3, 1) := by decide +kernel
theorem dX12_sellNow_30 : decode cX12_sellNow 30 = .ok (.isub, 1) := by decide +kernel
theorem dX12_sellNow_31 : decode cX12_sellNow 31 = .ok (.invokevirtual 79, 3) := by decide +kernel
theorem dX12_sellNow_34 : decode cX12_sellNow 34 = .ok (.aload_n 0, 1) := by decide +kernel
theorem dX12_sellNow_35 : decode cX12_sellNow 35 = .ok (.getfield 7, 3) := by decide +kernel
theorem dX12_sellNow_38 : decode cX12_sellNow 38 = .ok (.bipush 8, 2) := by decide +kernel
theorem dX12_sellNow_40 : decode cX12_sellNow 40 = .ok (.aload_n 0, 1) := by decide +kernel
theorem dX12_sellNow_41 : decode cX12_sellNow 41 = .ok (.getfield 7, 3) := by decide +kernel
theorem dX12_sellNow_44 : decode cX12_sellNow 44 = .ok (.bipush 8, 2) := by decide +kernel
theorem dX12_sellNow_46 : decode cX12_sellNow 46 = .ok (.iaload, 1) := by decide +kernel
theorem dX12_sellNow_47 : decode cX12_sellNow 47 = .ok (.iload_n 3, 1) := by decide +kernel
theorem dX12_sellNow_48 : decode cX12_sellNow 48 = .ok (.iadd, 1) := by decide +kernel
theorem dX12_sellNow_49 : decode cX12_sellNow 49 = .ok (.i2l, 1) := by decide +kernel
theorem dX12_sellNow_50 : decode cX12_sellNow 50 = .ok (.iconst 0, 1) := by decide +kernel
theorem dX12_sellNow_51 : decode cX12_sellNow 51 = .ok (.ldc 111, 2) := by decide +kernel
theorem dX12_sellNow_53 : decode cX12_sellNow 53 = .ok (.invokestatic 292, 3) := by decide +kernel
theorem dX12_sellNow_56 : decode cX12_sellNow 56 = .ok (.iastore, 1) := by decide +kernel
theorem dX12_sellNow_57 : decode cX12_sellNow 57 = .ok (.aload_n 0, 1) := by decide +kernel
theorem dX12_sellNow_58 : decode cX12_sellNow 58 = .ok (.iload_n 1, 1) := by decide +kernel
theorem dX12_sellNow_59 : decode cX12_sellNow 59 = .ok (.iconst 1, 1) := by decide +kernel
theorem dX12_sellNow_60 : decode cX12_sellNow 60 = .ok (.iconst 3, 1) := by decide +kernel
theorem dX12_sellNow_61 : decode cX12_sellNow 61 = .ok (.iload_n 2, 1) := by decide +kernel
theorem dX12_sellNow_62 : decode cX12_sellNow 62 = .ok (.iadd, 1) := by decide +kernel
theorem dX12_sellNow_63 : decode cX12_sellNow 63 = .ok (.invokevirtual 75, 3) := by decide +kernel
theorem dX12_sellNow_66 : decode cX12_sellNow 66 = .ok (.aload_n 0, 1) := by decide +kernel
theorem dX12_sellNow_67 : decode cX12_sellNow 67 = .ok (.dup, 1) := by decide +kernel
theorem dX12_sellNow_68 : decode cX12_sellNow 68 = .ok (.getfield 331, 3) := by decide +kernel
theorem dX12_sellNow_71 : decode cX12_sellNow 71 = .ok (.iconst 1, 1) := by decide +kernel
theorem dX12_sellNow_72 : decode cX12_sellNow 72 = .ok (.iadd, 1) := by decide +kernel
theorem dX12_sellNow_73 : decode cX12_sellNow 73 = .ok (.putfield 331, 3) := by decide +kernel
theorem dX12_sellNow_76 : decode cX12_sellNow 76 = .ok (.aload_n 0, 1) := by decide +kernel
theorem dX12_sellNow_77 : decode cX12_sellNow 77 = .ok (.iload_n 1, 1) := by decide +kernel
theorem dX12_sellNow_78 : decode cX12_sellNow 78 = .ok (.iload_n 2, 1) := by decide +kernel
theorem dX12_sellNow_79 : decode cX12_sellNow 79 = .ok (.iload_n 3, 1) := by decide +kernel
theorem dX12_sellNow_80 : decode cX12_sellNow 80 = .ok (.invokevirtual 334, 3) := by decide +kernel
theorem dX12_sellNow_83 : decode cX12_sellNow 83 = .ok (.iload_n 3, 1) := by decide +kernel
theorem dX12_sellNow_84 : decode cX12_sellNow 84 = .ok (.ireturn, 1) := by decide +kernel
theorem dX12_canSell_0 : decode cX12_canSell 0 = .ok (.aload_n 0, 1) := by decide +kernel
theorem dX12_canSell_1 : decode cX12_canSell 1 = .ok (.iload_n 1, 1) := by decide +kernel
theorem dX12_canSell_2 : decode cX12_canSell 2 = .ok (.invokevirtual 337, 3) := by decide +kernel
theorem dX12_canSell_5 : decode cX12_canSell 5 = .ok (.ifCond .eq 16, 3) := by decide +kernel
theorem dX12_canSell_8 : decode cX12_canSell 8 = .ok (.aload_n 0, 1) := by decide +kernel
theorem dX12_canSell_9 : decode cX12_canSell 9 = .ok (.getfield 7, 3) := by decide +kernel
theorem dX12_canSell_12 : decode cX12_canSell 12 = .ok (.iconst 1, 1) := by decide +kernel
theorem dX12_canSell_13 : decode cX12_canSell 13 = .ok (.iaload, 1) := by decide +kernel
theorem dX12_canSell_14 : decode cX12_canSell 14 = .ok (.ifCond .le 7, 3) := by decide +kernel
theorem dX12_canSell_17 : decode cX12_canSell 17 = .ok (.iconst 1, 1) := by decide +kernel
theorem dX12_canSell_18 : decode cX12_canSell 18 = .ok (.goto 4, 3) := by decide +kernel
theorem dX12_canSell_21 : decode cX12_canSell 21 = .ok (.iconst 0, 1) := by decide +kernel
theorem dX12_canSell_22 : decode cX12_canSell 22 = .ok (.ireturn, 1) := by decide +kernel
theorem dX12_offer_0 : decode cX12_offer 0 = .ok (.aload_n 0, 1) := by decide +kernel
theorem dX12_offer_1 : decode cX12_offer 1 = .ok (.getfield 7, 3) := by decide +kernel
theorem dX12_offer_4 : decode cX12_offer 4 = .ok (.iconst 1, 1) := by decide +kernel
theorem dX12_offer_5 : decode cX12_offer 5 = .ok (.iaload, 1) := by decide +kernel
theorem dX12_offer_6 : decode cX12_offer 6 = .ok (.ifCond .ne 4, 3) := by decide +kernel
theorem dX12_offer_9 : decode cX12_offer 9 = .ok (.return_, 1) := by decide +kernel
theorem dX12_offer_10 : decode cX12_offer 10 = .ok (.aload_n 0, 1) := by decide +kernel
theorem dX12_offer_11 : decode cX12_offer 11 = .ok (.getfield 7, 3) := by decide +kernel
theorem dX12_offer_14 : decode cX12_offer 14 = .ok (.bipush 9, 2) := by decide +kernel
theorem dX12_offer_16 : decode cX12_offer 16 = .ok (.iaload, 1) := by decide +kernel
theorem dX12_offer_17 : decode cX12_offer 17 = .ok (.bipush 10, 2) := by decide +kernel
theorem dX12_offer_19 : decode cX12_offer 19 = .ok (.irem, 1) := by decide +kernel
theorem dX12_offer_20 : decode cX12_offer 20 = .ok (.istore_n 2, 1) := by decide +kernel
theorem dX12_offer_21 : decode cX12_offer 21 = .ok (.aload_n 0, 1) := by decide +kernel
theorem dX12_offer_22 : decode cX12_offer 22 = .ok (.invokevirtual 340, 3) := by decide +kernel
theorem dX12_offer_25 : decode cX12_offer 25 = .ok (.iload_n 2, 1) := by decide +kernel
theorem dX12_offer_26 : decode cX12_offer 26 = .ok (.aload_n 0, 1) := by decide +kernel
theorem dX12_offer_27 : decode cX12_offer 27 = .ok (.getfield 7, 3) := by decide +kernel
theorem dX12_offer_30 : decode cX12_offer 30 = .ok (.iconst 1, 1) := by decide +kernel
theorem dX12_offer_31 : decode cX12_offer 31 = .ok (.iaload, 1) := by decide +kernel
theorem dX12_offer_32 : decode cX12_offer 32 = .ok (.irem, 1) := by decide +kernel
theorem dX12_offer_33 : decode cX12_offer 33 = .ok (.istore_n 3, 1) := by decide +kernel
theorem dX12_offer_34 : decode cX12_offer 34 = .ok (.iload_n 2, 1) := by decide +kernel
theorem dX12_offer_35 : decode cX12_offer 35 = .ok (.aload_n 0, 1) := by decide +kernel
theorem dX12_offer_36 : decode cX12_offer 36 = .ok (.aload_n 0, 1) := by decide +kernel
theorem dX12_offer_37 : decode cX12_offer 37 = .ok (.getfield 7, 3) := by decide +kernel
theorem dX12_offer_40 : decode cX12_offer 40 = .ok (.iconst 3, 1) := by decide +kernel
theorem dX12_offer_41 : decode cX12_offer 41 = .ok (.iaload, 1) := by decide +kernel
theorem dX12_offer_42 : decode cX12_offer 42 = .ok (.iload_n 1, 1) := by decide +kernel
theorem dX12_offer_43 : decode cX12_offer 43 = .ok (.invokevirtual 343, 3) := by decide +kernel
theorem dX12_offer_46 : decode cX12_offer 46 = .ok (.if_icmp .ge 28, 3) := by decide +kernel
theorem dX12_offer_49 : decode cX12_offer 49 = .ok (.aload_n 0, 1) := by decide +kernel
theorem dX12_offer_50 : decode cX12_offer 50 = .ok (.iload_n 3, 1) := by decide +kernel
theorem dX12_offer_51 : decode cX12_offer 51 = .ok (.iconst 1, 1) := by decide +kernel
theorem dX12_offer_52 : decode cX12_offer 52 = .ok (.iload_n 1, 1) := by decide +kernel
theorem dX12_offer_53 : decode cX12_offer 53 = .ok (.iadd, 1) := by decide +kernel
theorem dX12_offer_54 : decode cX12_offer 54 = .ok (.aload_n 0, 1) := by decide +kernel
theorem dX12_offer_55 : decode cX12_offer 55 = .ok (.iload_n 3, 1) := by decide +kernel
theorem dX12_offer_56 : decode cX12_offer 56 = .ok (.iconst 1, 1) := by decide +kernel
theorem dX12_offer_57 : decode cX12_offer 57 = .ok (.iload_n 1, 1) := by decide +kernel
theorem dX12_offer_58 : decode cX12_offer 58 = .ok (.iadd, 1) := by decide +kernel
theorem dX12_offer_59 : decode cX12_offer 59 = .ok (.invokevirtual 299, 3) := by decide +kernel
theorem dX12_offer_62 : decode cX12_offer 62 = .ok (.iconst 5, 1) := by decide +kernel
theorem dX12_offer_63 : decode cX12_offer 63 = .ok (.iadd, 1) := by decide +kernel
theorem dX12_offer_64 : decode cX12_offer 64 = .ok (.i2l, 1) := by decide +kernel
theorem dX12_offer_65 : decode cX12_offer 65 = .ok (.iconst 0, 1) := by decide +kernel
theorem dX12_offer_66 : decode cX12_offer 66 = .ok (.bipush 99, 2) := by decide +kernel
theorem dX12_offer_68 : decode cX12_offer 68 = .ok (.invokestatic 292, 3) := by decide +kernel
theorem dX12_offer_71 : decode cX12_offer 71 = .ok (.invokevirtual 79, 3) := by decide +kernel
theorem dX12_offer_74 : decode cX12_offer 74 = .ok (.aload_n 0, 1) := by decide +kernel
theorem dX12_offer_75 : decode cX12_offer 75 = .ok (.iload_n 1, 1) := by decide +kernel
theorem dX12_offer_76 : decode cX12_offer 76 = .ok (.invokevirtual 346, 3) := by decide +kernel
theorem dX12_offer_79 : decode cX12_offer 79 = .ok (.pop, 1) := by decide +kernel
theorem dX12_offer_80 : decode cX12_offer 80 = .ok (.return_, 1) := by decide +kernel
theorem dX12_pass_0 : decode cX12_pass 0 = .ok (.aload_n 0, 1) := by decide +kernel
theorem dX12_pass_1 : decode cX12_pass 1 = .ok (.invokevirtual 349, 3) := by decide +kernel
theorem dX12_pass_4 : decode cX12_pass 4 = .ok (.istore_n 1, 1) := by decide +kernel
theorem dX12_pass_5 : decode cX12_pass 5 = .ok (.iconst 0, 1) := by decide +kernel
theorem dX12_pass_6 : decode cX12_pass 6 = .ok (.istore_n 2, 1) := by decide +kernel
theorem dX12_pass_7 : decode cX12_pass 7 = .ok (.iload_n 2, 1) := by decide +kernel
theorem dX12_pass_8 : decode cX12_pass 8 = .ok (.aload_n 0, 1) := by decide +kernel
theorem dX12_pass_9 : decode cX12_pass 9 = .ok (.getfield 7, 3) := by decide +kernel
theorem dX12_pass_12 : decode cX12_pass 12 = .ok (.iconst 0, 1) := by decide +kernel
theorem dX12_pass_13 : decode cX12_pass 13 = .ok (.iaload, 1) := by decide +kernel
theorem dX12_pass_14 : decode cX12_pass 14 = .ok (.if_icmp .ge 32, 3) := by decide +kernel
theorem dX12_pass_17 : decode cX12_pass 17 = .ok (.aload_n 0, 1) := by decide +kernel
theorem dX12_pass_18 : decode cX12_pass 18 = .ok (.iload_n 2, 1) := by decide +kernel
theorem dX12_pass_19 : decode cX12_pass 19 = .ok (.invokevirtual 337, 3) := by decide +kernel
theorem dX12_pass_22 : decode cX12_pass 22 = .ok (.ifCond .eq 18, 3) := by decide +kernel
theorem dX12_pass_25 : decode cX12_pass 25 = .ok (.aload_n 0, 1) := by decide +kernel
theorem dX12_pass_26 : decode cX12_pass 26 = .ok (.iload_n 2, 1) := by decide +kernel
theorem dX12_pass_27 : decode cX12_pass 27 = .ok (.iconst 0, 1) := by decide +kernel
theorem dX12_pass_28 : decode cX12_pass 28 = .ok (.invokevirtual 68, 3) := by decide +kernel
theorem dX12_pass_31 : decode cX12_pass 31 = .ok (.iload_n 1, 1) := by decide +kernel
theorem dX12_pass_32 : decode cX12_pass 32 = .ok (.if_icmp .ne 8, 3) := by decide +kernel
theorem dX12_pass_35 : decode cX12_pass 35 = .ok (.aload_n 0, 1) := by decide +kernel
theorem dX12_pass_36 : decode cX12_pass 36 = .ok (.iload_n 2, 1) := by decide +kernel
theorem dX12_pass_37 : decode cX12_pass 37 = .ok (.invokevirtual 352, 3) := by decide +kernel
theorem dX12_pass_40 : decode cX12_pass 40 = .ok (.iinc 2 1, 3) := by decide +kernel
theorem dX12_pass_43 : decode cX12_pass 43 = .ok (.goto (-36), 3) := by decide +kernel
theorem dX12_pass_46 : decode cX12_pass 46 = .ok (.aload_n 0, 1) := by decide +kernel
theorem dX12_pass_47 : decode cX12_pass 47 = .ok (.getfield 7, 3) := by decide +kernel
theorem dX12_pass_50 : decode cX12_pass 50 = .ok (.bipush 7, 2) := by decide +kernel
theorem dX12_pass_52 : decode cX12_pass 52 = .ok (.dup2, 1) := by decide +kernel
theorem dX12_pass_53 : decode cX12_pass 53 = .ok (.iaload, 1) := by decide +kernel
theorem dX12_pass_54 : decode cX12_pass 54 = .ok (.iconst 1, 1) := by decide +kernel
theorem dX12_pass_55 : decode cX12_pass 55 = .ok (.iadd, 1) := by decide +kernel
theorem dX12_pass_56 : decode cX12_pass 56 = .ok (.iastore, 1) := by decide +kernel
theorem dX12_pass_57 : decode cX12_pass 57 = .ok (.return_, 1) := by decide +kernel
theorem dX12_keep_0 : decode cX12_keep 0 = .ok (.aload_n 0, 1) := by decide +kernel
theorem dX12_keep_1 : decode cX12_keep 1 = .ok (.getfield 7, 3) := by decide +kernel
theorem dX12_keep_4 : decode cX12_keep 4 = .ok (.iconst 4, 1) := by decide +kernel
theorem dX12_keep_5 : decode cX12_keep 5 = .ok (.iaload, 1) := by decide +kernel
theorem dX12_keep_6 : decode cX12_keep 6 = .ok (.bipush 30, 2) := by decide +kernel
theorem dX12_keep_8 : decode cX12_keep 8 = .ok (.if_icmp .ne 48, 3) := by decide +kernel
theorem dX12_keep_11 : decode cX12_keep 11 = .ok (.iconst 0, 1) := by decide +kernel
theorem dX12_keep_12 : decode cX12_keep 12 = .ok (.istore_n 1, 1) := by decide +kernel
theorem dX12_keep_13 : decode cX12_keep 13 = .ok (.iload_n 1, 1) := by decide +kernel
theorem dX12_keep_14 : decode cX12_keep 14 = .ok (.sipush 4495, 3) := by decide +kernel
theorem dX12_keep_17 : decode cX12_keep 17 = .ok (.if_icmp .ge 29, 3) := by decide +kernel
theorem dX12_keep_20 : decode cX12_keep 20 = .ok (.aload_n 0, 1) := by decide +kernel
theorem dX12_keep_21 : decode cX12_keep 21 = .ok (.getfield 7, 3) := by decide +kernel
theorem dX12_keep_24 : decode cX12_keep 24 = .ok (.sipush 193, 3) := by decide +kernel
theorem dX12_keep_27 : decode cX12_keep 27 = .ok (.iload_n 1, 1) := by decide +kernel
theorem dX12_keep_28 : decode cX12_keep 28 = .ok (.iadd, 1) := by decide +kernel
theorem dX12_keep_29 : decode cX12_keep 29 = .ok (.aload_n 0, 1) := by decide +kernel
theorem dX12_keep_30 : decode cX12_keep 30 = .ok (.getfield 7, 3) := by decide +kernel
theorem dX12_keep_33 : decode cX12_keep 33 = .ok (.sipush 348, 3) := by decide +kernel
theorem dX12_keep_36 : decode cX12_keep 36 = .ok (.iload_n 1, 1) := by decide +kernel
theorem dX12_keep_37 : decode cX12_keep 37 = .ok (.iadd, 1) := by decide +kernel
theorem dX12_keep_38 : decode cX12_keep 38 = .ok (.iaload, 1) := by decide +kernel
theorem dX12_keep_39 : decode cX12_keep 39 = .ok (.iastore, 1) := by decide +kernel
theorem dX12_keep_40 : decode cX12_keep 40 = .ok (.iinc 1 1, 3) := by decide +kernel
theorem dX12_keep_43 : decode cX12_keep 43 = .ok (.goto (-30), 3) := by decide +kernel
theorem dX12_keep_46 : decode cX12_keep 46 = .ok (.aload_n 0, 1) := by decide +kernel
theorem dX12_keep_47 : decode cX12_keep 47 = .ok (.getfield 7, 3) := by decide +kernel
theorem dX12_keep_50 : decode cX12_keep 50 = .ok (.iconst 4, 1) := by decide +kernel
theorem dX12_keep_51 : decode cX12_keep 51 = .ok (.dup2, 1) := by decide +kernel
theorem dX12_keep_52 : decode cX12_keep 52 = .ok (.iaload, 1) := by decide +kernel
theorem dX12_keep_53 : decode cX12_keep 53 = .ok (.iconst 1, 1) := by decide +kernel
theorem dX12_keep_54 : decode cX12_keep 54 = .ok (.isub, 1) := by decide +kernel
theorem dX12_keep_55 : decode cX12_keep 55 = .ok (.iastore, 1) := by decide +kernel
theorem dX12_keep_56 : decode cX12_keep 56 = .ok (.sipush 193, 3) := by decide +kernel
theorem dX12_keep_59 : decode cX12_keep 59 = .ok (.sipush 155, 3) := by decide +kernel
theorem dX12_keep_62 : decode cX12_keep 62 = .ok (.aload_n 0, 1) := by decide +kernel
theorem dX12_keep_63 : decode cX12_keep 63 = .ok (.getfield 7, 3) := by decide +kernel
theorem dX12_keep_66 : decode cX12_keep 66 = .ok (.iconst 4, 1) := by decide +kernel
theorem dX12_keep_67 : decode cX12_keep 67 = .ok (.iaload, 1) := by decide +kernel
theorem dX12_keep_68 : decode cX12_keep 68 = .ok (.imul, 1) := by decide +kernel
theorem dX12_keep_69 : decode cX12_keep 69 = .ok (.iadd, 1) := by decide +kernel
theorem dX12_keep_70 : decode cX12_keep 70 = .ok (.istore_n 1, 1) := by decide +kernel
theorem dX12_keep_71 : decode cX12_keep 71 = .ok (.aload_n 0, 1) := by decide +kernel
theorem dX12_keep_72 : decode cX12_keep 72 = .ok (.getfield 7, 3) := by decide +kernel
theorem dX12_keep_75 : decode cX12_keep 75 = .ok (.iload_n 1, 1) := by decide +kernel
theorem dX12_keep_76 : decode cX12_keep 76 = .ok (.aload_n 0, 1) := by decide +kernel
theorem dX12_keep_77 : decode cX12_keep 77 = .ok (.getfield 7, 3) := by decide +kernel
theorem dX12_keep_80 : decode cX12_keep 80 = .ok (.iconst 0, 1) := by decide +kernel
theorem dX12_keep_81 : decode cX12_keep 81 = .ok (.iaload, 1) := by decide +kernel
theorem dX12_keep_82 : decode cX12_keep 82 = .ok (.iastore, 1) := by decide +kernel
theorem dX12_keep_83 : decode cX12_keep 83 = .ok (.aload_n 0, 1) := by decide +kernel
theorem dX12_keep_84 : decode cX12_keep 84 = .ok (.getfield 7, 3) := by decide +kernel
theorem dX12_keep_87 : decode cX12_keep 87 = .ok (.iload_n 1, 1) := by decide +kernel
theorem dX12_keep_88 : decode cX12_keep 88 = .ok (.iconst 1, 1) := by decide +kernel
theorem dX12_keep_89 : decode cX12_keep 89 = .ok (.iadd, 1) := by decide +kernel
theorem dX12_keep_90 : decode cX12_keep 90 = .ok (.aload_n 0, 1) := by decide +kernel
theorem dX12_keep_91 : decode cX12_keep 91 = .ok (.getfield 7, 3) := by decide +kernel
theorem dX12_keep_94 : decode cX12_keep 94 = .ok (.iconst 1, 1) := by decide +kernel
theorem dX12_keep_95 : decode cX12_keep 95 = .ok (.iaload, 1) := by decide +kernel
theorem dX12_keep_96 : decode cX12_keep 96 = .ok (.iastore, 1) := by decide +kernel
theorem dX12_keep_97 : decode cX12_keep 97 = .ok (.iconst 0, 1) := by decide +kernel
theorem dX12_keep_98 : decode cX12_keep 98 = .ok (.istore_n 2, 1) := by decide +kernel
theorem dX12_keep_99 : decode cX12_keep 99 = .ok (.iload_n 2, 1) := by decide +kernel
theorem dX12_keep_100 : decode cX12_keep 100 = .ok (.iconst 4, 1) := by decide +kernel
theorem dX12_keep_101 : decode cX12_keep 101 = .ok (.if_icmp .ge 28, 3) := by decide +kernel
theorem dX12_keep_104 : decode cX12_keep 104 = .ok (.aload_n 0, 1) := by decide +kernel
theorem dX12_keep_105 : decode cX12_keep 105 = .ok (.getfield 7, 3) := by decide +kernel
theorem dX12_keep_108 : decode cX12_keep 108 = .ok (.iload_n 1, 1) := by decide +kernel
theorem dX12_keep_109 : decode cX12_keep 109 = .ok (.iconst 2, 1) := by decide +kernel
theorem dX12_keep_110 : decode cX12_keep 110 = .ok (.iadd, 1) := by decide +kernel
theorem dX12_keep_111 : decode cX12_keep 111 = .ok (.iload_n 2, 1) := by decide +kernel
theorem dX12_keep_112 : decode cX12_keep 112 = .ok (.iadd, 1) := by decide +kernel
theorem dX12_keep_113 : decode cX12_keep 113 = .ok (.aload_n 0, 1) := by decide +kernel
theorem dX12_keep_114 : decode cX12_keep 114 = .ok (.getfield 7, 3) := by decide +kernel
theorem dX12_keep_117 : decode cX12_keep 117 = .ok (.bipush 7, 2) := by decide +kernel
theorem dX12_keep_119 : decode cX12_keep 119 = .ok (.iload_n 2, 1) := by decide +kernel
theorem dX12_keep_120 : decode cX12_keep 120 = .ok (.iadd, 1) := by decide +kernel
theorem dX12_keep_121 : decode cX12_keep 121 = .ok (.iaload, 1) := by decide +kernel
theorem dX12_keep_122 : decode cX12_keep 122 = .ok (.iastore, 1) := by decide +kernel
theorem dX12_keep_123 : decode cX12_keep 123 = .ok (.iinc 2 1, 3) := by decide +kernel
theorem dX12_keep_126 : decode cX12_keep 126 = .ok (.goto (-27), 3) := by decide +kernel
theorem dX12_keep_129 : decode cX12_keep 129 = .ok (.iconst 0, 1) := by decide +kernel
theorem dX12_keep_130 : decode cX12_keep 130 = .ok (.istore_n 2, 1) := by decide +kernel
theorem dX12_keep_131 : decode cX12_keep 131 = .ok (.iload_n 2, 1) := by decide +kernel
theorem dX12_keep_132 : decode cX12_keep 132 = .ok (.bipush 12, 2) := by decide +kernel
theorem dX12_keep_134 : decode cX12_keep 134 = .ok (.if_icmp .ge 43, 3) := by decide +kernel
theorem dX12_keep_137 : decode cX12_keep 137 = .ok (.iconst 0, 1) := by decide +kernel
theorem dX12_keep_138 : decode cX12_keep 138 = .ok (.istore_n 3, 1) := by decide +kernel
theorem dX12_keep_139 : decode cX12_keep 139 = .ok (.iload_n 3, 1) := by decide +kernel
theorem dX12_keep_140 : decode cX12_keep 140 = .ok (.iconst 2, 1) := by decide +kernel
theorem dX12_keep_141 : decode cX12_keep 141 = .ok (.if_icmp .ge 30, 3) := by decide +kernel
theorem dX12_keep_144 : decode cX12_keep 144 = .ok (.aload_n 0, 1) := by decide +kernel
theorem dX12_keep_145 : decode cX12_keep 145 = .ok (.getfield 7, 3) := by decide +kernel
theorem dX12_keep_148 : decode cX12_keep 148 = .ok (.iload_n 1, 1) := by decide +kernel
theorem dX12_keep_149 : decode cX12_keep 149 = .ok (.bipush 6, 2) := by decide +kernel
theorem dX12_keep_151 : decode cX12_keep 151 = .ok (.iadd, 1) := by decide +kernel
theorem dX12_keep_152 : decode cX12_keep 152 = .ok (.iconst 2, 1) := by decide +kernel
theorem dX12_keep_153 : decode cX12_keep 153 = .ok (.iload_n 2, 1) := by decide +kernel
theorem dX12_keep_154 : decode cX12_keep 154 = .ok (.imul, 1) := by decide +kernel
theorem dX12_keep_155 : decode cX12_keep 155 = .ok (.iadd, 1) := by decide +kernel
theorem dX12_keep_156 : decode cX12_keep 156 = .ok (.iload_n 3, 1) := by decide +kernel
theorem dX12_keep_157 : decode cX12_keep 157 = .ok (.iadd, 1) := by decide +kernel
theorem dX12_keep_158 : decode cX12_keep 158 = .ok (.aload_n 0, 1) := by decide +kernel
theorem dX12_keep_159 : decode cX12_keep 159 = .ok (.iload_n 2, 1) := by decide +kernel
theorem dX12_keep_160 : decode cX12_keep 160 = .ok (.iload_n 3, 1) := by decide +kernel
theorem dX12_keep_161 : decode cX12_keep 161 = .ok (.invokevirtual 68, 3) := by decide +kernel
theorem dX12_keep_164 : decode cX12_keep 164 = .ok (.iastore, 1) := by decide +kernel
theorem dX12_keep_165 : decode cX12_keep 165 = .ok (.iinc 3 1, 3) := by decide +kernel
theorem dX12_keep_168 : decode cX12_keep 168 = .ok (.goto (-29), 3) := by decide +kernel
theorem dX12_keep_171 : decode cX12_keep 171 = .ok (.iinc 2 1, 3) := by decide +kernel
theorem dX12_keep_174 : decode cX12_keep 174 = .ok (.goto (-43), 3) := by decide +kernel
theorem dX12_keep_177 : decode cX12_keep 177 = .ok (.iconst 0, 1) := by decide +kernel
theorem dX12_keep_178 : decode cX12_keep 178 = .ok (.istore_n 2, 1) := by decide +kernel
theorem dX12_keep_179 : decode cX12_keep 179 = .ok (.iload_n 2, 1) := by decide +kernel
theorem dX12_keep_180 : decode cX12_keep 180 = .ok (.iconst 5, 1) := by decide +kernel
theorem dX12_keep_181 : decode cX12_keep 181 = .ok (.if_icmp .ge 45, 3) := by decide +kernel
theorem dX12_keep_184 : decode cX12_keep 184 = .ok (.iconst 0, 1) := by decide +kernel
theorem dX12_keep_185 : decode cX12_keep 185 = .ok (.istore_n 3, 1) := by decide +kernel
theorem dX12_keep_186 : decode cX12_keep 186 = .ok (.iload_n 3, 1) := by decide +kernel
theorem dX12_keep_187 : decode cX12_keep 187 = .ok (.bipush 13, 2) := by decide +kernel
theorem dX12_keep_189 : decode cX12_keep 189 = .ok (.if_icmp .ge 31, 3) := by decide +kernel
theorem dX12_keep_192 : decode cX12_keep 192 = .ok (.aload_n 0, 1) := by decide +kernel
theorem dX12_keep_193 : decode cX12_keep 193 = .ok (.getfield 7, 3) := by decide +kernel
theorem dX12_keep_196 : decode cX12_keep 196 = .ok (.iload_n 1, 1) := by decide +kernel
theorem dX12_keep_197 : decode cX12_keep 197 = .ok (.bipush 30, 2) := by decide +kernel
theorem dX12_keep_199 : decode cX12_keep 199 = .ok (.iadd, 1) := by decide +kernel
theorem dX12_keep_200 : decode cX12_keep 200 = .ok (.bipush 13, 2) := by decide +kernel
theorem dX12_keep_202 : decode cX12_keep 202 = .ok (.iload_n 2, 1) := by decide +kernel
theorem dX12_keep_203 : decode cX12_keep 203 = .ok (.imul, 1) := by decide +kernel
theorem dX12_keep_204 : decode cX12_keep 204 = .ok (.iadd, 1) := by decide +kernel
theorem dX12_keep_205 : decode cX12_keep 205 = .ok (.iload_n 3, 1) := by decide +kernel
theorem dX12_keep_206 : decode cX12_keep 206 = .ok (.iadd, 1) := by decide +kernel
theorem dX12_keep_207 : decode cX12_keep 207 = .ok (.aload_n 0, 1) := by decide +kernel
theorem dX12_keep_208 : decode cX12_keep 208 = .ok (.iload_n 2, 1) := by decide +kernel
theorem dX12_keep_209 : decode cX12_keep 209 = .ok (.iload_n 3, 1) := by decide +kernel
theorem dX12_keep_210 : decode cX12_keep 210 = .ok (.invokevirtual 299, 3) := by decide +kernel
theorem dX12_keep_213 : decode cX12_keep 213 = .ok (.iastore, 1) := by decide +kernel
theorem dX12_keep_214 : decode cX12_keep 214 = .ok (.iinc 3 1, 3) := by decide +kernel
theorem dX12_keep_217 : decode cX12_keep 217 = .ok (.goto (-31), 3) := by decide +kernel
theorem dX12_keep_220 : decode cX12_keep 220 = .ok (.iinc 2 1, 3) := by decide +kernel
theorem dX12_keep_223 : decode cX12_keep 223 = .ok (.goto (-44), 3) := by decide +kernel
theorem dX12_keep_226 : decode cX12_keep 226 = .ok (.iconst 0, 1) := by decide +kernel
theorem dX12_keep_227 : decode cX12_keep 227 = .ok (.istore_n 2, 1) := by decide +kernel
theorem dX12_keep_228 : decode cX12_keep 228 = .ok (.iload_n 2, 1) := by decide +kernel
theorem dX12_keep_229 : decode cX12_keep 229 = .ok (.bipush 60, 2) := by decide +kernel
theorem dX12_keep_231 : decode cX12_keep 231 = .ok (.if_icmp .ge 30, 3) := by decide +kernel
theorem dX12_keep_234 : decode cX12_keep 234 = .ok (.aload_n 0, 1) := by decide +kernel
theorem dX12_keep_235 : decode cX12_keep 235 = .ok (.getfield 7, 3) := by decide +kernel
theorem dX12_keep_238 : decode cX12_keep 238 = .ok (.iload_n 1, 1) := by decide +kernel
theorem dX12_keep_239 : decode cX12_keep 239 = .ok (.bipush 95, 2) := by decide +kernel
theorem dX12_keep_241 : decode cX12_keep 241 = .ok (.iadd, 1) := by decide +kernel
theorem dX12_keep_242 : decode cX12_keep 242 = .ok (.iload_n 2, 1) := by decide +kernel
theorem dX12_keep_243 : decode cX12_keep 243 = .ok (.iadd, 1) := by decide +kernel
theorem dX12_keep_244 : decode cX12_keep 244 = .ok (.aload_n 0, 1) := by decide +kernel
theorem dX12_keep_245 : decode cX12_keep 245 = .ok (.getfield 7, 3) := by decide +kernel
theorem dX12_keep_248 : decode cX12_keep 248 = .ok (.sipush 4843, 3) := by decide +kernel
theorem dX12_keep_251 : decode cX12_keep 251 = .ok (.iload_n 2, 1) := by decide +kernel
theorem dX12_keep_252 : decode cX12_keep 252 = .ok (.iadd, 1) := by decide +kernel
theorem dX12_keep_253 : decode cX12_keep 253 = .ok (.iaload, 1) := by decide +kernel
theorem dX12_keep_254 : decode cX12_keep 254 = .ok (.iastore, 1) := by decide +kernel
theorem dX12_keep_255 : decode cX12_keep 255 = .ok (.iinc 2 1, 3) := by decide +kernel
theorem dX12_keep_258 : decode cX12_keep 258 = .ok (.goto (-30), 3) := by decide +kernel
theorem dX12_keep_261 : decode cX12_keep 261 = .ok (.aload_n 0, 1) := by decide +kernel
theorem dX12_keep_262 : decode cX12_keep 262 = .ok (.getfield 7, 3) := by decide +kernel
theorem dX12_keep_265 : decode cX12_keep 265 = .ok (.iconst 4, 1) := by decide +kernel
theorem dX12_keep_266 : decode cX12_keep 266 = .ok (.dup2, 1) := by decide +kernel
theorem dX12_keep_267 : decode cX12_keep 267 = .ok (.iaload, 1) := by decide +kernel
theorem dX12_keep_268 : decode cX12_keep 268 = .ok (.iconst 1, 1) := by decide +kernel
theorem dX12_keep_269 : decode cX12_keep 269 = .ok (.iadd, 1) := by decide +kernel
theorem dX12_keep_270 : decode cX12_keep 270 = .ok (.iastore, 1) := by decide +kernel
theorem dX12_keep_271 : decode cX12_keep 271 = .ok (.return_, 1) := by decide +kernel
theorem dX12_undo_0 : decode cX12_undo 0 = .ok (.aload_n 0, 1) := by decide +kernel
theorem dX12_undo_1 : decode cX12_undo 1 = .ok (.getfield 7, 3) := by decide +kernel
theorem dX12_undo_4 : decode cX12_undo 4 = .ok (.iconst 4, 1) := by decide +kernel
theorem dX12_undo_5 : decode cX12_undo 5 = .ok (.iaload, 1) := by decide +kernel
theorem dX12_undo_6 : decode cX12_undo 6 = .ok (.ifCond .ne 5, 3) := by decide +kernel
theorem dX12_undo_9 : decode cX12_undo 9 = .ok (.iconst (-1), 1) := by decide +kernel
theorem dX12_undo_10 : decode cX12_undo 10 = .ok (.ireturn, 1) := by decide +kernel
theorem dX12_undo_11 : decode cX12_undo 11 = .ok (.aload_n 0, 1) := by decide +kernel
theorem dX12_undo_12 : decode cX12_undo 12 = .ok (.getfield 7, 3) := by decide +kernel
theorem dX12_undo_15 : decode cX12_undo 15 = .ok (.iconst 4, 1) := by decide +kernel
theorem dX12_undo_16 : decode cX12_undo 16 = .ok (.dup2, 1) := by decide +kernel
theorem dX12_undo_17 : decode cX12_undo 17 = .ok (.iaload, 1) := by decide +kernel
theorem dX12_undo_18 : decode cX12_undo 18 = .ok (.iconst 1, 1) := by decide +kernel
theorem dX12_undo_19 : decode cX12_undo 19 = .ok (.isub, 1) := by decide +kernel
theorem dX12_undo_20 : decode cX12_undo 20 = .ok (.iastore, 1) := by decide +kernel
theorem dX12_undo_21 : decode cX12_undo 21 = .ok (.sipush 193, 3) := by decide +kernel
theorem dX12_undo_24 : decode cX12_undo 24 = .ok (.sipush 155, 3) := by decide +kernel
theorem dX12_undo_27 : decode cX12_undo 27 = .ok (.aload_n 0, 1) := by decide +kernel
theorem dX12_undo_28 : decode cX12_undo 28 = .ok (.getfield 7, 3) := by decide +kernel
theorem dX12_undo_31 : decode cX12_undo 31 = .ok (.iconst 4, 1) := by decide +kernel
theorem dX12_undo_32 : decode cX12_undo 32 = .ok (.iaload, 1) := by decide +kernel
theorem dX12_undo_33 : decode cX12_undo 33 = .ok (.imul, 1) := by decide +kernel
theorem dX12_undo_34 : decode cX12_undo 34 = .ok (.iadd, 1) := by decide +kernel
theorem dX12_undo_35 : decode cX12_undo 35 = .ok (.istore_n 1, 1) := by decide +kernel
theorem dX12_undo_36 : decode cX12_undo 36 = .ok (.iconst 0, 1) := by decide +kernel
theorem dX12_undo_37 : decode cX12_undo 37 = .ok (.istore_n 2, 1) := by decide +kernel
theorem dX12_undo_38 : decode cX12_undo 38 = .ok (.iload_n 2, 1) := by decide +kernel
theorem dX12_undo_39 : decode cX12_undo 39 = .ok (.iconst 4, 1) := by decide +kernel
theorem dX12_undo_40 : decode cX12_undo 40 = .ok (.if_icmp .ge 28, 3) := by decide +kernel
theorem dX12_undo_43 : decode cX12_undo 43 = .ok (.aload_n 0, 1) := by decide +kernel
theorem dX12_undo_44 : decode cX12_undo 44 = .ok (.getfield 7, 3) := by decide +kernel
theorem dX12_undo_47 : decode cX12_undo 47 = .ok (.bipush 7, 2) := by decide +kernel
theorem dX12_undo_49 : decode cX12_undo 49 = .ok (.iload_n 2, 1) := by decide +kernel
theorem dX12_undo_50 : decode cX12_undo 50 = .ok (.iadd, 1) := by decide +kernel
theorem dX12_undo_51 : decode cX12_undo 51 = .ok (.aload_n 0, 1) := by decide +kernel
theorem dX12_undo_52 : decode cX12_undo 52 = .ok (.getfield 7, 3) := by decide +kernel
theorem dX12_undo_55 : decode cX12_undo 55 = .ok (.iload_n 1, 1) := by decide +kernel
theorem dX12_undo_56 : decode cX12_undo 56 = .ok (.iconst 2, 1) := by decide +kernel
theorem dX12_undo_57 : decode cX12_undo 57 = .ok (.iadd, 1) := by decide +kernel
theorem dX12_undo_58 : decode cX12_undo 58 = .ok (.iload_n 2, 1) := by decide +kernel
theorem dX12_undo_59 : decode cX12_undo 59 = .ok (.iadd, 1) := by decide +kernel
theorem dX12_undo_60 : decode cX12_undo 60 = .ok (.iaload, 1) := by decide +kernel
theorem dX12_undo_61 : decode cX12_undo 61 = .ok (.iastore, 1) := by decide +kernel
theorem dX12_undo_62 : decode cX12_undo 62 = .ok (.iinc 2 1, 3) := by decide +kernel
theorem dX12_undo_65 : decode cX12_undo 65 = .ok (.goto (-27), 3) := by decide +kernel
theorem dX12_undo_68 : decode cX12_undo 68 = .ok (.iconst 0, 1) := by decide +kernel
theorem dX12_undo_69 : decode cX12_undo 69 = .ok (.istore_n 2, 1) := by decide +kernel
theorem dX12_undo_70 : decode cX12_undo 70 = .ok (.iload_n 2, 1) := by decide +kernel
theorem dX12_undo_71 : decode cX12_undo 71 = .ok (.aload_n 0, 1) := by decide +kernel
theorem dX12_undo_72 : decode cX12_undo 72 = .ok (.getfield 7, 3) := by decide +kernel
theorem dX12_undo_75 : decode cX12_undo 75 = .ok (.iconst 0, 1) := by decide +kernel
theorem dX12_undo_76 : decode cX12_undo 76 = .ok (.iaload, 1) := by decide +kernel
theorem dX12_undo_77 : decode cX12_undo 77 = .ok (.if_icmp .ge 80, 3) := by decide +kernel
theorem dX12_undo_80 : decode cX12_undo 80 = .ok (.aload_n 0, 1) := by decide +kernel
theorem dX12_undo_81 : decode cX12_undo 81 = .ok (.iload_n 2, 1) := by decide +kernel
theorem dX12_undo_82 : decode cX12_undo 82 = .ok (.iconst 0, 1) := by decide +kernel
theorem dX12_undo_83 : decode cX12_undo 83 = .ok (.iload_n 2, 1) := by decide +kernel
theorem dX12_undo_84 : decode cX12_undo 84 = .ok (.aload_n 0, 1) := by decide +kernel
theorem dX12_undo_85 : decode cX12_undo 85 = .ok (.getfield 7, 3) := by decide +kernel
theorem dX12_undo_88 : decode cX12_undo 88 = .ok (.iload_n 1, 1) := by decide +kernel
theorem dX12_undo_89 : decode cX12_undo 89 = .ok (.iaload, 1) := by decide +kernel
theorem dX12_undo_90 : decode cX12_undo 90 = .ok (.if_icmp .ge 19, 3) := by decide +kernel
theorem dX12_undo_93 : decode cX12_undo 93 = .ok (.aload_n 0, 1) := by decide +kernel
theorem dX12_undo_94 : decode cX12_undo 94 = .ok (.getfield 7, 3) := by decide +kernel
theorem dX12_undo_97 : decode cX12_undo 97 = .ok (.iload_n 1, 1) := by decide +kernel
theorem dX12_undo_98 : decode cX12_undo 98 = .ok (.bipush 6, 2) := by decide +kernel
theorem dX12_undo_100 : decode cX12_undo 100 = .ok (.iadd, 1) := by decide +kernel
theorem dX12_undo_101 : decode cX12_undo 101 = .ok (.iconst 2, 1) := by decide +kernel
theorem dX12_undo_102 : decode cX12_undo 102 = .ok (.iload_n 2, 1) := by decide +kernel
theorem dX12_undo_103 : decode cX12_undo 103 = .ok (.imul, 1) := by decide +kernel
theorem dX12_undo_104 : decode cX12_undo 104 = .ok (.iadd, 1) := by decide +kernel
theorem dX12_undo_105 : decode cX12_undo 105 = .ok (.iaload, 1) := by decide +kernel
theorem dX12_undo_106 : decode cX12_undo 106 = .ok (.goto 9, 3) := by decide +kernel
theorem dX12_undo_109 : decode cX12_undo 109 = .ok (.aload_n 0, 1) := by decide +kernel
theorem dX12_undo_110 : decode cX12_undo 110 = .ok (.iload_n 2, 1) := by decide +kernel
theorem dX12_undo_111 : decode cX12_undo 111 = .ok (.iconst 4, 1) := by decide +kernel
theorem dX12_undo_112 : decode cX12_undo 112 = .ok (.invokevirtual 68, 3) := by decide +kernel
theorem dX12_undo_115 : decode cX12_undo 115 = .ok (.invokevirtual 75, 3) := by decide +kernel
theorem dX12_undo_118 : decode cX12_undo 118 = .ok (.aload_n 0, 1) := by decide +kernel
theorem dX12_undo_119 : decode cX12_undo 119 = .ok (.iload_n 2, 1) := by decide +kernel
theorem dX12_undo_120 : decode cX12_undo 120 = .ok (.iconst 1, 1) := by decide +kernel
theorem dX12_undo_121 : decode cX12_undo 121 = .ok (.iload_n 2, 1) := by decide +kernel
theorem dX12_undo_122 : decode cX12_undo 122 = .ok (.aload_n 0, 1) := by decide +kernel
theorem dX12_undo_123 : decode cX12_undo 123 = .ok (.getfield 7, 3) := by decide +kernel
theorem dX12_undo_126 : decode cX12_undo 126 = .ok (.iload_n 1, 1) := by decide +kernel
theorem dX12_undo_127 : decode cX12_undo 127 = .ok (.iaload, 1) := by decide +kernel
theorem dX12_undo_128 : decode cX12_undo 128 = .ok (.if_icmp .ge 19, 3) := by decide +kernel
theorem dX12_undo_131 : decode cX12_undo 131 = .ok (.aload_n 0, 1) := by decide +kernel
theorem dX12_undo_132 : decode cX12_undo 132 = .ok (.getfield 7, 3) := by decide +kernel
theorem dX12_undo_135 : decode cX12_undo 135 = .ok (.iload_n 1, 1) := by decide +kernel
theorem dX12_undo_136 : decode cX12_undo 136 = .ok (.bipush 7, 2) := by decide +kernel
theorem dX12_undo_138 : decode cX12_undo 138 = .ok (.iadd, 1) := by decide +kernel
theorem dX12_undo_139 : decode cX12_undo 139 = .ok (.iconst 2, 1) := by decide +kernel
theorem dX12_undo_140 : decode cX12_undo 140 = .ok (.iload_n 2, 1) := by decide +kernel
theorem dX12_undo_141 : decode cX12_undo 141 = .ok (.imul, 1) := by decide +kernel
theorem dX12_undo_142 : decode cX12_undo 142 = .ok (.iadd, 1) := by decide +kernel
theorem dX12_undo_143 : decode cX12_undo 143 = .ok (.iaload, 1) := by decide +kernel
theorem dX12_undo_144 : decode cX12_undo 144 = .ok (.goto 4, 3) := by decide +kernel
theorem dX12_undo_147 : decode cX12_undo 147 = .ok (.iconst 0, 1) := by decide +kernel
theorem dX12_undo_148 : decode cX12_undo 148 = .ok (.invokevirtual 75, 3) := by decide +kernel
theorem dX12_undo_151 : decode cX12_undo 151 = .ok (.iinc 2 1, 3) := by decide +kernel
theorem dX12_undo_154 : decode cX12_undo 154 = .ok (.goto (-84), 3) := by decide +kernel
theorem dX12_undo_157 : decode cX12_undo 157 = .ok (.iconst 0, 1) := by decide +kernel
theorem dX12_undo_158 : decode cX12_undo 158 = .ok (.istore_n 2, 1) := by decide +kernel
theorem dX12_undo_159 : decode cX12_undo 159 = .ok (.iload_n 2, 1) := by decide +kernel
theorem dX12_undo_160 : decode cX12_undo 160 = .ok (.aload_n 0, 1) := by decide +kernel
theorem dX12_undo_161 : decode cX12_undo 161 = .ok (.getfield 7, 3) := by decide +kernel
theorem dX12_undo_164 : decode cX12_undo 164 = .ok (.iconst 1, 1) := by decide +kernel
theorem dX12_undo_165 : decode cX12_undo 165 = .ok (.iaload, 1) := by decide +kernel
theorem dX12_undo_166 : decode cX12_undo 166 = .ok (.if_icmp .ge 82, 3) := by decide +kernel
theorem dX12_undo_169 : decode cX12_undo 169 = .ok (.iload_n 2, 1) := by decide +kernel
theorem dX12_undo_170 : decode cX12_undo 170 = .ok (.aload_n 0, 1) := by decide +kernel
theorem dX12_undo_171 : decode cX12_undo 171 = .ok (.getfield 7, 3) := by decide +kernel
theorem dX12_undo_174 : decode cX12_undo 174 = .ok (.iload_n 1, 1) := by decide +kernel
theorem dX12_undo_175 : decode cX12_undo 175 = .ok (.iconst 1, 1) := by decide +kernel
theorem dX12_undo_176 : decode cX12_undo 176 = .ok (.iadd, 1) := by decide +kernel
theorem dX12_undo_177 : decode cX12_undo 177 = .ok (.iaload, 1) := by decide +kernel
theorem dX12_undo_178 : decode cX12_undo 178 = .ok (.if_icmp .lt 16, 3) := by decide +kernel
theorem dX12_undo_181 : decode cX12_undo 181 = .ok (.aload_n 0, 1) := by decide +kernel
theorem dX12_undo_182 : decode cX12_undo 182 = .ok (.iload_n 2, 1) := by decide +kernel
theorem dX12_undo_183 : decode cX12_undo 183 = .ok (.iconst 0, 1) := by decide +kernel
theorem dX12_undo_184 : decode cX12_undo 184 = .ok (.aload_n 0, 1) := by decide +kernel
theorem dX12_undo_185 : decode cX12_undo 185 = .ok (.iload_n 2, 1) := by decide +kernel
theorem dX12_undo_186 : decode cX12_undo 186 = .ok (.bipush 13, 2) := by decide +kernel
theorem dX12_undo_188 : decode cX12_undo 188 = .ok (.invokevirtual 299, 3) := by decide +kernel
theorem dX12_undo_191 : decode cX12_undo 191 = .ok (.invokevirtual 79, 3) := by decide +kernel
theorem dX12_undo_194 : decode cX12_undo 194 = .ok (.iconst 0, 1) := by decide +kernel
theorem dX12_undo_195 : decode cX12_undo 195 = .ok (.istore_n 3, 1) := by decide +kernel
theorem dX12_undo_196 : decode cX12_undo 196 = .ok (.iload_n 3, 1) := by decide +kernel
theorem dX12_undo_197 : decode cX12_undo 197 = .ok (.bipush 13, 2) := by decide +kernel
theorem dX12_undo_199 : decode cX12_undo 199 = .ok (.if_icmp .ge 43, 3) := by decide +kernel
theorem dX12_undo_202 : decode cX12_undo 202 = .ok (.iload_n 2, 1) := by decide +kernel
theorem dX12_undo_203 : decode cX12_undo 203 = .ok (.aload_n 0, 1) := by decide +kernel
theorem dX12_undo_204 : decode cX12_undo 204 = .ok (.getfield 7, 3) := by decide +kernel
theorem dX12_undo_207 : decode cX12_undo 207 = .ok (.iload_n 1, 1) := by decide +kernel
theorem dX12_undo_208 : decode cX12_undo 208 = .ok (.iconst 1, 1) := by decide +kernel
theorem dX12_undo_209 : decode cX12_undo 209 = .ok (.iadd, 1) := by decide +kernel
theorem dX12_undo_210 : decode cX12_undo 210 = .ok (.iaload, 1) := by decide +kernel
theorem dX12_undo_211 : decode cX12_undo 211 = .ok (.if_icmp .ge 31, 3) := by decide +kernel
theorem dX12_undo_214 : decode cX12_undo 214 = .ok (.aload_n 0, 1) := by decide +kernel
theorem dX12_undo_215 : decode cX12_undo 215 = .ok (.iload_n 2, 1) := by decide +kernel
theorem dX12_undo_216 : decode cX12_undo 216 = .ok (.iload_n 3, 1) := by decide +kernel
theorem dX12_undo_217 : decode cX12_undo 217 = .ok (.aload_n 0, 1) := by decide +kernel
theorem dX12_undo_218 : decode cX12_undo 218 = .ok (.getfield 7, 3) := by decide +kernel
theorem dX12_undo_221 : decode cX12_undo 221 = .ok (.iload_n 1, 1) := by decide +kernel
theorem dX12_undo_222 : decode cX12_undo 222 = .ok (.bipush 30, 2) := by decide +kernel
theorem dX12_undo_224 : decode cX12_undo 224 = .ok (.iadd, 1) := by decide +kernel
theorem dX12_undo_225 : decode cX12_undo 225 = .ok (.bipush 13, 2) := by decide +kernel
theorem dX12_undo_227 : decode cX12_undo 227 = .ok (.iload_n 2, 1) := by decide +kernel
theorem dX12_undo_228 : decode cX12_undo 228 = .ok (.imul, 1) := by decide +kernel
theorem dX12_undo_229 : decode cX12_undo 229 = .ok (.iadd, 1) := by decide +kernel
theorem dX12_undo_230 : decode cX12_undo 230 = .ok (.iload_n 3, 1) := by decide +kernel
theorem dX12_undo_231 : decode cX12_undo 231 = .ok (.iadd, 1) := by decide +kernel
theorem dX12_undo_232 : decode cX12_undo 232 = .ok (.iaload, 1) := by decide +kernel
theorem dX12_undo_233 : decode cX12_undo 233 = .ok (.invokevirtual 79, 3) := by decide +kernel
theorem dX12_undo_236 : decode cX12_undo 236 = .ok (.iinc 3 1, 3) := by decide +kernel
theorem dX12_undo_239 : decode cX12_undo 239 = .ok (.goto (-43), 3) := by decide +kernel
theorem dX12_undo_242 : decode cX12_undo 242 = .ok (.iinc 2 1, 3) := by decide +kernel
theorem dX12_undo_245 : decode cX12_undo 245 = .ok (.goto (-86), 3) := by decide +kernel
theorem dX12_undo_248 : decode cX12_undo 248 = .ok (.iconst 0, 1) := by decide +kernel
theorem dX12_undo_249 : decode cX12_undo 249 = .ok (.istore_n 2, 1) := by decide +kernel
theorem dX12_undo_250 : decode cX12_undo 250 = .ok (.iload_n 2, 1) := by decide +kernel
theorem dX12_undo_251 : decode cX12_undo 251 = .ok (.bipush 60, 2) := by decide +kernel
theorem dX12_undo_253 : decode cX12_undo 253 = .ok (.if_icmp .ge 30, 3) := by decide +kernel
theorem dX12_undo_256 : decode cX12_undo 256 = .ok (.aload_n 0, 1) := by decide +kernel
theorem dX12_undo_257 : decode cX12_undo 257 = .ok (.getfield 7, 3) := by decide +kernel
theorem dX12_undo_260 : decode cX12_undo 260 = .ok (.sipush 4843, 3) := by decide +kernel
theorem dX12_undo_263 : decode cX12_undo 263 = .ok (.iload_n 2, 1) := by decide +kernel
theorem dX12_undo_264 : decode cX12_undo 264 = .ok (.iadd, 1) := by decide +kernel
theorem dX12_undo_265 : decode cX12_undo 265 = .ok (.aload_n 0, 1) := by decide +kernel
theorem dX12_undo_266 : decode cX12_undo 266 = .ok (.getfield 7, 3) := by decide +kernel
theorem dX12_undo_269 : decode cX12_undo 269 = .ok (.iload_n 1, 1) := by decide +kernel
theorem dX12_undo_270 : decode cX12_undo 270 = .ok (.bipush 95, 2) := by decide +kernel
theorem dX12_undo_272 : decode cX12_undo 272 = .ok (.iadd, 1) := by decide +kernel
theorem dX12_undo_273 : decode cX12_undo 273 = .ok (.iload_n 2, 1) := by decide +kernel
theorem dX12_undo_274 : decode cX12_undo 274 = .ok (.iadd, 1) := by decide +kernel
theorem dX12_undo_275 : decode cX12_undo 275 = .ok (.iaload, 1) := by decide +kernel
theorem dX12_undo_276 : decode cX12_undo 276 = .ok (.iastore, 1) := by decide +kernel
theorem dX12_undo_277 : decode cX12_undo 277 = .ok (.iinc 2 1, 3) := by decide +kernel
theorem dX12_undo_280 : decode cX12_undo 280 = .ok (.goto (-30), 3) := by decide +kernel
theorem dX12_undo_283 : decode cX12_undo 283 = .ok (.aload_n 0, 1) := by decide +kernel
theorem dX12_undo_284 : decode cX12_undo 284 = .ok (.getfield 7, 3) := by decide +kernel
theorem dX12_undo_287 : decode cX12_undo 287 = .ok (.iconst 4, 1) := by decide +kernel
theorem dX12_undo_288 : decode cX12_undo 288 = .ok (.iaload, 1) := by decide +kernel
theorem dX12_undo_289 : decode cX12_undo 289 = .ok (.ireturn, 1) := by decide +kernel
theorem dX12_sell_0 : decode cX12_sell 0 = .ok (.aload_n 0, 1) := by decide +kernel
theorem dX12_sell_1 : decode cX12_sell 1 = .ok (.iload_n 1, 1) := by decide +kernel
theorem dX12_sell_2 : decode cX12_sell 2 = .ok (.invokevirtual 355, 3) := by decide +kernel
theorem dX12_sell_5 : decode cX12_sell 5 = .ok (.ifCond .ne 6, 3) := by decide +kernel
theorem dX12_sell_8 : decode cX12_sell 8 = .ok (.bipush (-2), 2) := by decide +kernel
theorem dX12_sell_10 : decode cX12_sell 10 = .ok (.ireturn, 1) := by decide +kernel
theorem dX12_sell_11 : decode cX12_sell 11 = .ok (.aload_n 0, 1) := by decide +kernel
theorem dX12_sell_12 : decode cX12_sell 12 = .ok (.invokevirtual 358, 3) := by decide +kernel
theorem dX12_sell_15 : decode cX12_sell 15 = .ok (.aload_n 0, 1) := by decide +kernel
theorem dX12_sell_16 : decode cX12_sell 16 = .ok (.iload_n 1, 1) := by decide +kernel
theorem dX12_sell_17 : decode cX12_sell 17 = .ok (.invokevirtual 346, 3) := by decide +kernel
theorem dX12_sell_20 : decode cX12_sell 20 = .ok (.ireturn, 1) := by decide +kernel
theorem dX12_canCarry_0 : decode cX12_canCarry 0 = .ok (.aload_n 0, 1) := by decide +kernel
theorem dX12_canCarry_1 : decode cX12_canCarry 1 = .ok (.iload_n 1, 1) := by decide +kernel
theorem dX12_canCarry_2 : decode cX12_canCarry 2 = .ok (.invokevirtual 337, 3) := by decide +kernel
theorem dX12_canCarry_5 : decode cX12_canCarry 5 = .ok (.ifCond .eq 30, 3) := by decide +kernel
theorem dX12_canCarry_8 : decode cX12_canCarry 8 = .ok (.aload_n 0, 1) := by decide +kernel
theorem dX12_canCarry_9 : decode cX12_canCarry 9 = .ok (.iload_n 1, 1) := by decide +kernel
theorem dX12_canCarry_10 : decode cX12_canCarry 10 = .ok (.iconst 0, 1) := by decide +kernel
theorem dX12_canCarry_11 : decode cX12_canCarry 11 = .ok (.invokevirtual 68, 3) := by decide +kernel
theorem dX12_canCarry_14 : decode cX12_canCarry 14 = .ok (.aload_n 0, 1) := by decide +kernel
theorem dX12_canCarry_15 : decode cX12_canCarry 15 = .ok (.invokevirtual 349, 3) := by decide +kernel
theorem dX12_canCarry_18 : decode cX12_canCarry 18 = .ok (.if_icmp .gt 17, 3) := by decide +kernel
theorem dX12_canCarry_21 : decode cX12_canCarry 21 = .ok (.aload_n 0, 1) := by decide +kernel
theorem dX12_canCarry_22 : decode cX12_canCarry 22 = .ok (.iload_n 1, 1) := by decide +kernel
theorem dX12_canCarry_23 : decode cX12_canCarry 23 = .ok (.iconst 0, 1) := by decide +kernel
theorem dX12_canCarry_24 : decode cX12_canCarry 24 = .ok (.invokevirtual 68, 3) := by decide +kernel
theorem dX12_canCarry_27 : decode cX12_canCarry 27 = .ok (.iconst 5, 1) := by decide +kernel
theorem dX12_canCarry_28 : decode cX12_canCarry 28 = .ok (.if_icmp .ge 7, 3) := by decide +kernel
theorem dX12_canCarry_31 : decode cX12_canCarry 31 = .ok (.iconst 1, 1) := by decide +kernel
theorem dX12_canCarry_32 : decode cX12_canCarry 32 = .ok (.goto 4, 3) := by decide +kernel
theorem dX12_canCarry_35 : decode cX12_canCarry 35 = .ok (.iconst 0, 1) := by decide +kernel
theorem dX12_canCarry_36 : decode cX12_canCarry 36 = .ok (.ireturn, 1) := by decide +kernel
theorem dX12_carry_0 : decode cX12_carry 0 = .ok (.aload_n 0, 1) := by decide +kernel
theorem dX12_carry_1 : decode cX12_carry 1 = .ok (.iload_n 1, 1) := by decide +kernel
theorem dX12_carry_2 : decode cX12_carry 2 = .ok (.invokevirtual 361, 3) := by decide +kernel
theorem dX12_carry_5 : decode cX12_carry 5 = .ok (.ifCond .ne 5, 3) := by decide +kernel
theorem dX12_carry_8 : decode cX12_carry 8 = .ok (.iconst 0, 1) := by decide +kernel
theorem dX12_carry_9 : decode cX12_carry 9 = .ok (.ireturn, 1) := by decide +kernel
theorem dX12_carry_10 : decode cX12_carry 10 = .ok (.aload_n 0, 1) := by decide +kernel
theorem dX12_carry_11 : decode cX12_carry 11 = .ok (.invokevirtual 358, 3) := by decide +kernel
theorem dX12_carry_14 : decode cX12_carry 14 = .ok (.aload_n 0, 1) := by decide +kernel
theorem dX12_carry_15 : decode cX12_carry 15 = .ok (.iload_n 1, 1) := by decide +kernel
theorem dX12_carry_16 : decode cX12_carry 16 = .ok (.iconst 0, 1) := by decide +kernel
theorem dX12_carry_17 : decode cX12_carry 17 = .ok (.aload_n 0, 1) := by decide +kernel
theorem dX12_carry_18 : decode cX12_carry 18 = .ok (.iload_n 1, 1) := by decide +kernel
theorem dX12_carry_19 : decode cX12_carry 19 = .ok (.iconst 0, 1) := by decide +kernel
theorem dX12_carry_20 : decode cX12_carry 20 = .ok (.invokevirtual 68, 3) := by decide +kernel
theorem dX12_carry_23 : decode cX12_carry 23 = .ok (.iconst 1, 1) := by decide +kernel
theorem dX12_carry_24 : decode cX12_carry 24 = .ok (.iadd, 1) := by decide +kernel
theorem dX12_carry_25 : decode cX12_carry 25 = .ok (.invokevirtual 75, 3) := by decide +kernel
theorem dX12_carry_28 : decode cX12_carry 28 = .ok (.iconst 1, 1) := by decide +kernel
theorem dX12_carry_29 : decode cX12_carry 29 = .ok (.ireturn, 1) := by decide +kernel
theorem dX12_canBurn_0 : decode cX12_canBurn 0 = .ok (.aload_n 0, 1) := by decide +kernel
theorem dX12_canBurn_1 : decode cX12_canBurn 1 = .ok (.iload_n 1, 1) := by decide +kernel
theorem dX12_canBurn_2 : decode cX12_canBurn 2 = .ok (.invokevirtual 64, 3) := by decide +kernel
theorem dX12_canBurn_5 : decode cX12_canBurn 5 = .ok (.ifCond .eq 17, 3) := by decide +kernel
theorem dX12_canBurn_8 : decode cX12_canBurn 8 = .ok (.aload_n 0, 1) := by decide +kernel
theorem dX12_canBurn_9 : decode cX12_canBurn 9 = .ok (.iload_n 1, 1) := by decide +kernel
theorem dX12_canBurn_10 : decode cX12_canBurn 10 = .ok (.iconst 1, 1) := by decide +kernel
theorem dX12_canBurn_11 : decode cX12_canBurn 11 = .ok (.invokevirtual 68, 3) := by decide +kernel
theorem dX12_canBurn_14 : decode cX12_canBurn 14 = .ok (.iconst 1, 1) := by decide +kernel
theorem dX12_canBurn_15 : decode cX12_canBurn 15 = .ok (.if_icmp .gt 7, 3) := by decide +kernel
theorem dX12_canBurn_18 : decode cX12_canBurn 18 = .ok (.iconst 1, 1) := by decide +kernel
theorem dX12_canBurn_19 : decode cX12_canBurn 19 = .ok (.goto 4, 3) := by decide +kernel
theorem dX12_canBurn_22 : decode cX12_canBurn 22 = .ok (.iconst 0, 1) := by decide +kernel
theorem dX12_canBurn_23 : decode cX12_canBurn 23 = .ok (.ireturn, 1) := by decide +kernel
theorem dX12_burn_0 : decode cX12_burn 0 = .ok (.aload_n 0, 1) := by decide +kernel
theorem dX12_burn_1 : decode cX12_burn 1 = .ok (.iload_n 1, 1) := by decide +kernel
theorem dX12_burn_2 : decode cX12_burn 2 = .ok (.invokevirtual 364, 3) := by decide +kernel
theorem dX12_burn_5 : decode cX12_burn 5 = .ok (.ifCond .ne 5, 3) := by decide +kernel
theorem dX12_burn_8 : decode cX12_burn 8 = .ok (.iconst 0, 1) := by decide +kernel
theorem dX12_burn_9 : decode cX12_burn 9 = .ok (.ireturn, 1) := by decide +kernel
theorem dX12_burn_10 : decode cX12_burn 10 = .ok (.aload_n 0, 1) := by decide +kernel
theorem dX12_burn_11 : decode cX12_burn 11 = .ok (.invokevirtual 358, 3) := by decide +kernel
theorem dX12_burn_14 : decode cX12_burn 14 = .ok (.aload_n 0, 1) := by decide +kernel
theorem dX12_burn_15 : decode cX12_burn 15 = .ok (.iload_n 1, 1) := by decide +kernel
theorem dX12_burn_16 : decode cX12_burn 16 = .ok (.iconst 1, 1) := by decide +kernel
theorem dX12_burn_17 : decode cX12_burn 17 = .ok (.iconst 2, 1) := by decide +kernel
theorem dX12_burn_18 : decode cX12_burn 18 = .ok (.invokevirtual 75, 3) := by decide +kernel
theorem dX12_burn_21 : decode cX12_burn 21 = .ok (.iconst 1, 1) := by decide +kernel
theorem dX12_burn_22 : decode cX12_burn 22 = .ok (.ireturn, 1) := by decide +kernel
theorem dX12_canBuy_0 : decode cX12_canBuy 0 = .ok (.aload_n 0, 1) := by decide +kernel
theorem dX12_canBuy_1 : decode cX12_canBuy 1 = .ok (.iload_n 1, 1) := by decide +kernel
theorem dX12_canBuy_2 : decode cX12_canBuy 2 = .ok (.invokevirtual 64, 3) := by decide +kernel
theorem dX12_canBuy_5 : decode cX12_canBuy 5 = .ok (.ifCond .eq 35, 3) := by decide +kernel
theorem dX12_canBuy_8 : decode cX12_canBuy 8 = .ok (.aload_n 0, 1) := by decide +kernel
theorem dX12_canBuy_9 : decode cX12_canBuy 9 = .ok (.iload_n 1, 1) := by decide +kernel
theorem dX12_canBuy_10 : decode cX12_canBuy 10 = .ok (.iconst 1, 1) := by decide +kernel
theorem dX12_canBuy_11 : decode cX12_canBuy 11 = .ok (.invokevirtual 68, 3) := by decide +kernel
theorem dX12_canBuy_14 : decode cX12_canBuy 14 = .ok (.iconst 3, 1) := by decide +kernel
theorem dX12_canBuy_15 : decode cX12_canBuy 15 = .ok (.if_icmp .lt 25, 3) := by decide +kernel
theorem dX12_canBuy_18 : decode cX12_canBuy 18 = .ok (.iload_n 2, 1) := by decide +kernel
theorem dX12_canBuy_19 : decode cX12_canBuy 19 = .ok (.iconst 0, 1) := by decide +kernel
theorem dX12_canBuy_20 : decode cX12_canBuy 20 = .ok (.sipush 999, 3) := by decide +kernel
theorem dX12_canBuy_23 : decode cX12_canBuy 23 = .ok (.invokestatic 60, 3) := by decide +kernel
theorem dX12_canBuy_26 : decode cX12_canBuy 26 = .ok (.ifCond .eq 14, 3) := by decide +kernel
theorem dX12_canBuy_29 : decode cX12_canBuy 29 = .ok (.iload_n 2, 1) := by decide +kernel
theorem dX12_canBuy_30 : decode cX12_canBuy 30 = .ok (.aload_n 0, 1) := by decide +kernel
theorem dX12_canBuy_31 : decode cX12_canBuy 31 = .ok (.getfield 7, 3) := by decide +kernel
theorem dX12_canBuy_34 : decode cX12_canBuy 34 = .ok (.bipush 8, 2) := by decide +kernel
theorem dX12_canBuy_36 : decode cX12_canBuy 36 = .ok (.iaload, 1) := by decide +kernel
