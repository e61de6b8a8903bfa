theorem dX3_hasFigureAt_0 : decode cX3_hasFigureAt 0 = .ok (.aload_n 0, 1) := by decide +kernel
theorem dX3_hasFigureAt_1 : decode cX3_hasFigureAt 1 = .ok (.iload_n 2, 1) := by decide +kernel
theorem dX3_hasFigureAt_2 : decode cX3_hasFigureAt 2 = .ok (.invokevirtual 115, 3) := by decide +kernel
theorem dX3_hasFigureAt_5 : decode cX3_hasFigureAt 5 = .ok (.ifCond .eq 12, 3) := by decide +kernel
theorem dX3_hasFigureAt_8 : decode cX3_hasFigureAt 8 = .ok (.aload_n 1, 1) := by decide +kernel
theorem dX3_hasFigureAt_9 : decode cX3_hasFigureAt 9 = .ok (.getfield 81, 3) := by decide +kernel
theorem dX3_hasFigureAt_12 : decode cX3_hasFigureAt 12 = .ok (.iload_n 2, 1) := by decide +kernel
theorem dX3_hasFigureAt_13 : decode cX3_hasFigureAt 13 = .ok (.iaload, 1) := by decide +kernel
theorem dX3_hasFigureAt_14 : decode cX3_hasFigureAt 14 = .ok (.goto 4, 3) := by decide +kernel
theorem dX3_hasFigureAt_17 : decode cX3_hasFigureAt 17 = .ok (.iconst (-1), 1) := by decide +kernel
theorem dX3_hasFigureAt_18 : decode cX3_hasFigureAt 18 = .ok (.istore_n 3, 1) := by decide +kernel
theorem dX3_hasFigureAt_19 : decode cX3_hasFigureAt 19 = .ok (.iload_n 3, 1) := by decide +kernel
theorem dX3_hasFigureAt_20 : decode cX3_hasFigureAt 20 = .ok (.ifCond .lt 35, 3) := by decide +kernel
theorem dX3_hasFigureAt_23 : decode cX3_hasFigureAt 23 = .ok (.iload_n 3, 1) := by decide +kernel
theorem dX3_hasFigureAt_24 : decode cX3_hasFigureAt 24 = .ok (.aload_n 0, 1) := by decide +kernel
theorem dX3_hasFigureAt_25 : decode cX3_hasFigureAt 25 = .ok (.getfield 21, 3) := by decide +kernel
theorem dX3_hasFigureAt_28 : decode cX3_hasFigureAt 28 = .ok (.invokevirtual 37, 3) := by decide +kernel
theorem dX3_hasFigureAt_31 : decode cX3_hasFigureAt 31 = .ok (.if_icmp .ge 24, 3) := by decide +kernel
theorem dX3_hasFigureAt_34 : decode cX3_hasFigureAt 34 = .ok (.aload_n 0, 1) := by decide +kernel
theorem dX3_hasFigureAt_35 : decode cX3_hasFigureAt 35 = .ok (.getfield 21, 3) := by decide +kernel
theorem dX3_hasFigureAt_38 : decode cX3_hasFigureAt 38 = .ok (.iload_n 3, 1) := by decide +kernel
theorem dX3_hasFigureAt_39 : decode cX3_hasFigureAt 39 = .ok (.invokevirtual 45, 3) := by decide +kernel
theorem dX3_hasFigureAt_42 : decode cX3_hasFigureAt 42 = .ok (.checkcast 85, 3) := by decide +kernel
theorem dX3_hasFigureAt_45 : decode cX3_hasFigureAt 45 = .ok (.getfield 139, 3) := by decide +kernel
theorem dX3_hasFigureAt_48 : decode cX3_hasFigureAt 48 = .ok (.ifCond .eq 7, 3) := by decide +kernel
theorem dX3_hasFigureAt_51 : decode cX3_hasFigureAt 51 = .ok (.iconst 1, 1) := by decide +kernel
theorem dX3_hasFigureAt_52 : decode cX3_hasFigureAt 52 = .ok (.goto 4, 3) := by decide +kernel
theorem dX3_hasFigureAt_55 : decode cX3_hasFigureAt 55 = .ok (.iconst 0, 1) := by decide +kernel
theorem dX3_hasFigureAt_56 : decode cX3_hasFigureAt 56 = .ok (.ireturn, 1) := by decide +kernel
theorem dX3_figureAt_0 : decode cX3_figureAt 0 = .ok (.aload_n 0, 1) := by decide +kernel
theorem dX3_figureAt_1 : decode cX3_figureAt 1 = .ok (.iload_n 2, 1) := by decide +kernel
theorem dX3_figureAt_2 : decode cX3_figureAt 2 = .ok (.invokevirtual 115, 3) := by decide +kernel
theorem dX3_figureAt_5 : decode cX3_figureAt 5 = .ok (.ifCond .eq 12, 3) := by decide +kernel
theorem dX3_figureAt_8 : decode cX3_figureAt 8 = .ok (.aload_n 1, 1) := by decide +kernel
theorem dX3_figureAt_9 : decode cX3_figureAt 9 = .ok (.getfield 81, 3) := by decide +kernel
theorem dX3_figureAt_12 : decode cX3_figureAt 12 = .ok (.iload_n 2, 1) := by decide +kernel
theorem dX3_figureAt_13 : decode cX3_figureAt 13 = .ok (.iaload, 1) := by decide +kernel
theorem dX3_figureAt_14 : decode cX3_figureAt 14 = .ok (.goto 4, 3) := by decide +kernel
theorem dX3_figureAt_17 : decode cX3_figureAt 17 = .ok (.iconst (-1), 1) := by decide +kernel
theorem dX3_figureAt_18 : decode cX3_figureAt 18 = .ok (.istore_n 3, 1) := by decide +kernel
theorem dX3_figureAt_19 : decode cX3_figureAt 19 = .ok (.iload_n 3, 1) := by decide +kernel
theorem dX3_figureAt_20 : decode cX3_figureAt 20 = .ok (.ifCond .lt 35, 3) := by decide +kernel
theorem dX3_figureAt_23 : decode cX3_figureAt 23 = .ok (.iload_n 3, 1) := by decide +kernel
theorem dX3_figureAt_24 : decode cX3_figureAt 24 = .ok (.aload_n 0, 1) := by decide +kernel
theorem dX3_figureAt_25 : decode cX3_figureAt 25 = .ok (.getfield 21, 3) := by decide +kernel
theorem dX3_figureAt_28 : decode cX3_figureAt 28 = .ok (.invokevirtual 37, 3) := by decide +kernel
theorem dX3_figureAt_31 : decode cX3_figureAt 31 = .ok (.if_icmp .ge 24, 3) := by decide +kernel
theorem dX3_figureAt_34 : decode cX3_figureAt 34 = .ok (.aload_n 0, 1) := by decide +kernel
theorem dX3_figureAt_35 : decode cX3_figureAt 35 = .ok (.getfield 21, 3) := by decide +kernel
theorem dX3_figureAt_38 : decode cX3_figureAt 38 = .ok (.iload_n 3, 1) := by decide +kernel
theorem dX3_figureAt_39 : decode cX3_figureAt 39 = .ok (.invokevirtual 45, 3) := by decide +kernel
theorem dX3_figureAt_42 : decode cX3_figureAt 42 = .ok (.checkcast 85, 3) := by decide +kernel
theorem dX3_figureAt_45 : decode cX3_figureAt 45 = .ok (.getfield 139, 3) := by decide +kernel
theorem dX3_figureAt_48 : decode cX3_figureAt 48 = .ok (.ifCond .eq 7, 3) := by decide +kernel
theorem dX3_figureAt_51 : decode cX3_figureAt 51 = .ok (.iconst 1, 1) := by decide +kernel
theorem dX3_figureAt_52 : decode cX3_figureAt 52 = .ok (.goto 4, 3) := by decide +kernel
theorem dX3_figureAt_55 : decode cX3_figureAt 55 = .ok (.iconst 0, 1) := by decide +kernel
theorem dX3_figureAt_56 : decode cX3_figureAt 56 = .ok (.istore 4, 2) := by decide +kernel
theorem dX3_figureAt_58 : decode cX3_figureAt 58 = .ok (.iload 4, 2) := by decide +kernel
theorem dX3_figureAt_60 : decode cX3_figureAt 60 = .ok (.ifCond .eq 20, 3) := by decide +kernel
theorem dX3_figureAt_63 : decode cX3_figureAt 63 = .ok (.aload_n 0, 1) := by decide +kernel
theorem dX3_figureAt_64 : decode cX3_figureAt 64 = .ok (.getfield 21, 3) := by decide +kernel
theorem dX3_figureAt_67 : decode cX3_figureAt 67 = .ok (.iload_n 3, 1) := by decide +kernel
theorem dX3_figureAt_68 : decode cX3_figureAt 68 = .ok (.invokevirtual 45, 3) := by decide +kernel
theorem dX3_figureAt_71 : decode cX3_figureAt 71 = .ok (.checkcast 85, 3) := by decide +kernel
theorem dX3_figureAt_74 : decode cX3_figureAt 74 = .ok (.getfield 142, 3) := by decide +kernel
theorem dX3_figureAt_77 : decode cX3_figureAt 77 = .ok (.goto 4, 3) := by decide +kernel
theorem dX3_figureAt_80 : decode cX3_figureAt 80 = .ok (.iconst 0, 1) := by decide +kernel
theorem dX3_figureAt_81 : decode cX3_figureAt 81 = .ok (.ireturn, 1) := by decide +kernel
theorem dX3_sumOfBody_0 : decode cX3_sumOfBody 0 = .ok (.iconst 0, 1) := by decide +kernel
theorem dX3_sumOfBody_1 : decode cX3_sumOfBody 1 = .ok (.istore 4, 2) := by decide +kernel
theorem dX3_sumOfBody_3 : decode cX3_sumOfBody 3 = .ok (.iconst 0, 1) := by decide +kernel
theorem dX3_sumOfBody_4 : decode cX3_sumOfBody 4 = .ok (.iload_n 1, 1) := by decide +kernel
theorem dX3_sumOfBody_5 : decode cX3_sumOfBody 5 = .ok (.invokestatic 133, 3) := by decide +kernel
theorem dX3_sumOfBody_8 : decode cX3_sumOfBody 8 = .ok (.istore 5, 2) := by decide +kernel
theorem dX3_sumOfBody_10 : decode cX3_sumOfBody 10 = .ok (.iload 5, 2) := by decide +kernel
theorem dX3_sumOfBody_12 : decode cX3_sumOfBody 12 = .ok (.iload_n 2, 1) := by decide +kernel
theorem dX3_sumOfBody_13 : decode cX3_sumOfBody 13 = .ok (.if_icmp .ge 43, 3) := by decide +kernel
theorem dX3_sumOfBody_16 : decode cX3_sumOfBody 16 = .ok (.iload 5, 2) := by decide +kernel
theorem dX3_sumOfBody_18 : decode cX3_sumOfBody 18 = .ok (.aload_n 0, 1) := by decide +kernel
theorem dX3_sumOfBody_19 : decode cX3_sumOfBody 19 = .ok (.getfield 27, 3) := by decide +kernel
theorem dX3_sumOfBody_22 : decode cX3_sumOfBody 22 = .ok (.invokevirtual 37, 3) := by decide +kernel
theorem dX3_sumOfBody_25 : decode cX3_sumOfBody 25 = .ok (.if_icmp .ge 31, 3) := by decide +kernel
theorem dX3_sumOfBody_28 : decode cX3_sumOfBody 28 = .ok (.iload 4, 2) := by decide +kernel
theorem dX3_sumOfBody_30 : decode cX3_sumOfBody 30 = .ok (.aload_n 0, 1) := by decide +kernel
theorem dX3_sumOfBody_31 : decode cX3_sumOfBody 31 = .ok (.aload_n 0, 1) := by decide +kernel
theorem dX3_sumOfBody_32 : decode cX3_sumOfBody 32 = .ok (.getfield 27, 3) := by decide +kernel
theorem dX3_sumOfBody_35 : decode cX3_sumOfBody 35 = .ok (.iload 5, 2) := by decide +kernel
theorem dX3_sumOfBody_37 : decode cX3_sumOfBody 37 = .ok (.invokevirtual 45, 3) := by decide +kernel
theorem dX3_sumOfBody_40 : decode cX3_sumOfBody 40 = .ok (.checkcast 49, 3) := by decide +kernel
theorem dX3_sumOfBody_43 : decode cX3_sumOfBody 43 = .ok (.iload_n 3, 1) := by decide +kernel
theorem dX3_sumOfBody_44 : decode cX3_sumOfBody 44 = .ok (.invokevirtual 145, 3) := by decide +kernel
theorem dX3_sumOfBody_47 : decode cX3_sumOfBody 47 = .ok (.iadd, 1) := by decide +kernel
theorem dX3_sumOfBody_48 : decode cX3_sumOfBody 48 = .ok (.istore 4, 2) := by decide +kernel
theorem dX3_sumOfBody_50 : decode cX3_sumOfBody 50 = .ok (.iinc 5 1, 3) := by decide +kernel
theorem dX3_sumOfBody_53 : decode cX3_sumOfBody 53 = .ok (.goto (-43), 3) := by decide +kernel
theorem dX3_sumOfBody_56 : decode cX3_sumOfBody 56 = .ok (.iload 4, 2) := by decide +kernel
theorem dX3_sumOfBody_58 : decode cX3_sumOfBody 58 = .ok (.ireturn, 1) := by decide +kernel
theorem dX3_endsRun_0 : decode cX3_endsRun 0 = .ok (.aload_n 1, 1) := by decide +kernel
theorem dX3_endsRun_1 : decode cX3_endsRun 1 = .ok (.getfield 75, 3) := by decide +kernel
theorem dX3_endsRun_4 : decode cX3_endsRun 4 = .ok (.iconst 1, 1) := by decide +kernel
theorem dX3_endsRun_5 : decode cX3_endsRun 5 = .ok (.iadd, 1) := by decide +kernel
theorem dX3_endsRun_6 : decode cX3_endsRun 6 = .ok (.istore_n 2, 1) := by decide +kernel
theorem dX3_endsRun_7 : decode cX3_endsRun 7 = .ok (.aload_n 1, 1) := by decide +kernel
theorem dX3_endsRun_8 : decode cX3_endsRun 8 = .ok (.getfield 149, 3) := by decide +kernel
theorem dX3_endsRun_11 : decode cX3_endsRun 11 = .ok (.ifCond .eq 39, 3) := by decide +kernel
theorem dX3_endsRun_14 : decode cX3_endsRun 14 = .ok (.iload_n 2, 1) := by decide +kernel
theorem dX3_endsRun_15 : decode cX3_endsRun 15 = .ok (.aload_n 0, 1) := by decide +kernel
theorem dX3_endsRun_16 : decode cX3_endsRun 16 = .ok (.getfield 27, 3) := by decide +kernel
theorem dX3_endsRun_19 : decode cX3_endsRun 19 = .ok (.invokevirtual 37, 3) := by decide +kernel
theorem dX3_endsRun_22 : decode cX3_endsRun 22 = .ok (.if_icmp .ge 24, 3) := by decide +kernel
theorem dX3_endsRun_25 : decode cX3_endsRun 25 = .ok (.aload_n 0, 1) := by decide +kernel
theorem dX3_endsRun_26 : decode cX3_endsRun 26 = .ok (.getfield 27, 3) := by decide +kernel
theorem dX3_endsRun_29 : decode cX3_endsRun 29 = .ok (.iload_n 2, 1) := by decide +kernel
theorem dX3_endsRun_30 : decode cX3_endsRun 30 = .ok (.invokevirtual 45, 3) := by decide +kernel
theorem dX3_endsRun_33 : decode cX3_endsRun 33 = .ok (.checkcast 49, 3) := by decide +kernel
theorem dX3_endsRun_36 : decode cX3_endsRun 36 = .ok (.getfield 149, 3) := by decide +kernel
theorem dX3_endsRun_39 : decode cX3_endsRun 39 = .ok (.aload_n 1, 1) := by decide +kernel
theorem dX3_endsRun_40 : decode cX3_endsRun 40 = .ok (.getfield 149, 3) := by decide +kernel
theorem dX3_endsRun_43 : decode cX3_endsRun 43 = .ok (.if_icmp .eq 7, 3) := by decide +kernel
theorem dX3_endsRun_46 : decode cX3_endsRun 46 = .ok (.iconst 1, 1) := by decide +kernel
theorem dX3_endsRun_47 : decode cX3_endsRun 47 = .ok (.goto 4, 3) := by decide +kernel
theorem dX3_endsRun_50 : decode cX3_endsRun 50 = .ok (.iconst 0, 1) := by decide +kernel
theorem dX3_endsRun_51 : decode cX3_endsRun 51 = .ok (.ireturn, 1) := by decide +kernel
theorem dX3_hasBodyCellOfSeveralRows_0 : decode cX3_hasBodyCellOfSeveralRows 0 = .ok (.iconst 0, 1) := by decide +kernel
theorem dX3_hasBodyCellOfSeveralRows_1 : decode cX3_hasBodyCellOfSeveralRows 1 = .ok (.istore_n 1, 1) := by decide +kernel
theorem dX3_hasBodyCellOfSeveralRows_2 : decode cX3_hasBodyCellOfSeveralRows 2 = .ok (.iload_n 1, 1) := by decide +kernel
theorem dX3_hasBodyCellOfSeveralRows_3 : decode cX3_hasBodyCellOfSeveralRows 3 = .ok (.aload_n 0, 1) := by decide +kernel
theorem dX3_hasBodyCellOfSeveralRows_4 : decode cX3_hasBodyCellOfSeveralRows 4 = .ok (.getfield 21, 3) := by decide +kernel
theorem dX3_hasBodyCellOfSeveralRows_7 : decode cX3_hasBodyCellOfSeveralRows 7 = .ok (.invokevirtual 37, 3) := by decide +kernel
theorem dX3_hasBodyCellOfSeveralRows_10 : decode cX3_hasBodyCellOfSeveralRows 10 = .ok (.if_icmp .ge 50, 3) := by decide +kernel
theorem dX3_hasBodyCellOfSeveralRows_13 : decode cX3_hasBodyCellOfSeveralRows 13 = .ok (.aload_n 0, 1) := by decide +kernel
theorem dX3_hasBodyCellOfSeveralRows_14 : decode cX3_hasBodyCellOfSeveralRows 14 = .ok (.getfield 21, 3) := by decide +kernel
theorem dX3_hasBodyCellOfSeveralRows_17 : decode cX3_hasBodyCellOfSeveralRows 17 = .ok (.iload_n 1, 1) := by decide +kernel
theorem dX3_hasBodyCellOfSeveralRows_18 : decode cX3_hasBodyCellOfSeveralRows 18 = .ok (.invokevirtual 45, 3) := by decide +kernel
theorem dX3_hasBodyCellOfSeveralRows_21 : decode cX3_hasBodyCellOfSeveralRows 21 = .ok (.checkcast 85, 3) := by decide +kernel
theorem dX3_hasBodyCellOfSeveralRows_24 : decode cX3_hasBodyCellOfSeveralRows 24 = .ok (.getfield 90, 3) := by decide +kernel
theorem dX3_hasBodyCellOfSeveralRows_27 : decode cX3_hasBodyCellOfSeveralRows 27 = .ok (.iconst 1, 1) := by decide +kernel
theorem dX3_hasBodyCellOfSeveralRows_28 : decode cX3_hasBodyCellOfSeveralRows 28 = .ok (.if_icmp .le 26, 3) := by decide +kernel
theorem dX3_hasBodyCellOfSeveralRows_31 : decode cX3_hasBodyCellOfSeveralRows 31 = .ok (.aload_n 0, 1) := by decide +kernel
theorem dX3_hasBodyCellOfSeveralRows_32 : decode cX3_hasBodyCellOfSeveralRows 32 = .ok (.getfield 21, 3) := by decide +kernel
theorem dX3_hasBodyCellOfSeveralRows_35 : decode cX3_hasBodyCellOfSeveralRows 35 = .ok (.iload_n 1, 1) := by decide +kernel
theorem dX3_hasBodyCellOfSeveralRows_36 : decode cX3_hasBodyCellOfSeveralRows 36 = .ok (.invokevirtual 45, 3) := by decide +kernel
theorem dX3_hasBodyCellOfSeveralRows_39 : decode cX3_hasBodyCellOfSeveralRows 39 = .ok (.checkcast 85, 3) := by decide +kernel
theorem dX3_hasBodyCellOfSeveralRows_42 : decode cX3_hasBodyCellOfSeveralRows 42 = .ok (.getfield 84, 3) := by decide +kernel
theorem dX3_hasBodyCellOfSeveralRows_45 : decode cX3_hasBodyCellOfSeveralRows 45 = .ok (.getfield 51, 3) := by decide +kernel
theorem dX3_hasBodyCellOfSeveralRows_48 : decode cX3_hasBodyCellOfSeveralRows 48 = .ok (.iconst 1, 1) := by decide +kernel
theorem dX3_hasBodyCellOfSeveralRows_49 : decode cX3_hasBodyCellOfSeveralRows 49 = .ok (.if_icmp .ne 5, 3) := by decide +kernel
theorem dX3_hasBodyCellOfSeveralRows_52 : decode cX3_hasBodyCellOfSeveralRows 52 = .ok (.iconst 1, 1) := by decide +kernel
theorem dX3_hasBodyCellOfSeveralRows_53 : decode cX3_hasBodyCellOfSeveralRows 53 = .ok (.ireturn, 1) := by decide +kernel
theorem dX3_hasBodyCellOfSeveralRows_54 : decode cX3_hasBodyCellOfSeveralRows 54 = .ok (.iinc 1 1, 3) := by decide +kernel
theorem dX3_hasBodyCellOfSeveralRows_57 : decode cX3_hasBodyCellOfSeveralRows 57 = .ok (.goto (-55), 3) := by decide +kernel
theorem dX3_hasBodyCellOfSeveralRows_60 : decode cX3_hasBodyCellOfSeveralRows 60 = .ok (.iconst 0, 1) := by decide +kernel
theorem dX3_hasBodyCellOfSeveralRows_61 : decode cX3_hasBodyCellOfSeveralRows 61 = .ok (.ireturn, 1) := by decide +kernel
theorem dX3_goesAhead_0 : decode cX3_goesAhead 0 = .ok (.aload_n 0, 1) := by decide +kernel
theorem dX3_goesAhead_1 : decode cX3_goesAhead 1 = .ok (.aload_n 1, 1) := by decide +kernel
theorem dX3_goesAhead_2 : decode cX3_goesAhead 2 = .ok (.iload_n 3, 1) := by decide +kernel
theorem dX3_goesAhead_3 : decode cX3_goesAhead 3 = .ok (.invokevirtual 160, 3) := by decide +kernel
theorem dX3_goesAhead_6 : decode cX3_goesAhead 6 = .ok (.ifCond .ne 5, 3) := by decide +kernel
theorem dX3_goesAhead_9 : decode cX3_goesAhead 9 = .ok (.iconst 0, 1) := by decide +kernel
theorem dX3_goesAhead_10 : decode cX3_goesAhead 10 = .ok (.ireturn, 1) := by decide +kernel
theorem dX3_goesAhead_11 : decode cX3_goesAhead 11 = .ok (.aload_n 0, 1) := by decide +kernel
theorem dX3_goesAhead_12 : decode cX3_goesAhead 12 = .ok (.aload_n 2, 1) := by decide +kernel
theorem dX3_goesAhead_13 : decode cX3_goesAhead 13 = .ok (.iload_n 3, 1) := by decide +kernel
theorem dX3_goesAhead_14 : decode cX3_goesAhead 14 = .ok (.invokevirtual 160, 3) := by decide +kernel
theorem dX3_goesAhead_17 : decode cX3_goesAhead 17 = .ok (.ifCond .ne 5, 3) := by decide +kernel
theorem dX3_goesAhead_20 : decode cX3_goesAhead 20 = .ok (.iconst 1, 1) := by decide +kernel
theorem dX3_goesAhead_21 : decode cX3_goesAhead 21 = .ok (.ireturn, 1) := by decide +kernel
theorem dX3_goesAhead_22 : decode cX3_goesAhead 22 = .ok (.aload_n 0, 1) := by decide +kernel
theorem dX3_goesAhead_23 : decode cX3_goesAhead 23 = .ok (.aload_n 1, 1) := by decide +kernel
theorem dX3_goesAhead_24 : decode cX3_goesAhead 24 = .ok (.iload_n 3, 1) := by decide +kernel
theorem dX3_goesAhead_25 : decode cX3_goesAhead 25 = .ok (.invokevirtual 145, 3) := by decide +kernel
theorem dX3_goesAhead_28 : decode cX3_goesAhead 28 = .ok (.istore 5, 2) := by decide +kernel
theorem dX3_goesAhead_30 : decode cX3_goesAhead 30 = .ok (.aload_n 0, 1) := by decide +kernel
theorem dX3_goesAhead_31 : decode cX3_goesAhead 31 = .ok (.aload_n 2, 1) := by decide +kernel
theorem dX3_goesAhead_32 : decode cX3_goesAhead 32 = .ok (.iload_n 3, 1) := by decide +kernel
theorem dX3_goesAhead_33 : decode cX3_goesAhead 33 = .ok (.invokevirtual 145, 3) := by decide +kernel
theorem dX3_goesAhead_36 : decode cX3_goesAhead 36 = .ok (.istore 6, 2) := by decide +kernel
theorem dX3_goesAhead_38 : decode cX3_goesAhead 38 = .ok (.iload 4, 2) := by decide +kernel
theorem dX3_goesAhead_40 : decode cX3_goesAhead 40 = .ok (.ifCond .eq 18, 3) := by decide +kernel
theorem dX3_goesAhead_43 : decode cX3_goesAhead 43 = .ok (.iload 5, 2) := by decide +kernel
theorem dX3_goesAhead_45 : decode cX3_goesAhead 45 = .ok (.iload 6, 2) := by decide +kernel
theorem dX3_goesAhead_47 : decode cX3_goesAhead 47 = .ok (.if_icmp .le 7, 3) := by decide +kernel
theorem dX3_goesAhead_50 : decode cX3_goesAhead 50 = .ok (.iconst 1, 1) := by decide +kernel
theorem dX3_goesAhead_51 : decode cX3_goesAhead 51 = .ok (.goto 19, 3) := by decide +kernel
theorem dX3_goesAhead_54 : decode cX3_goesAhead 54 = .ok (.iconst 0, 1) := by decide +kernel
theorem dX3_goesAhead_55 : decode cX3_goesAhead 55 = .ok (.goto 15, 3) := by decide +kernel
theorem dX3_goesAhead_58 : decode cX3_goesAhead 58 = .ok (.iload 5, 2) := by decide +kernel
theorem dX3_goesAhead_60 : decode cX3_goesAhead 60 = .ok (.iload 6, 2) := by decide +kernel
theorem dX3_goesAhead_62 : decode cX3_goesAhead 62 = .ok (.if_icmp .ge 7, 3) := by decide +kernel
theorem dX3_goesAhead_65 : decode cX3_goesAhead 65 = .ok (.iconst 1, 1) := by decide +kernel
theorem dX3_goesAhead_66 : decode cX3_goesAhead 66 = .ok (.goto 4, 3) := by decide +kernel
theorem dX3_goesAhead_69 : decode cX3_goesAhead 69 = .ok (.iconst 0, 1) := by decide +kernel
theorem dX3_goesAhead_70 : decode cX3_goesAhead 70 = .ok (.ireturn, 1) := by decide +kernel
theorem dX3_numberBodyAnew_0 : decode cX3_numberBodyAnew 0 = .ok (.iconst 0, 1) := by decide +kernel
theorem dX3_numberBodyAnew_1 : decode cX3_numberBodyAnew 1 = .ok (.istore_n 1, 1) := by decide +kernel
theorem dX3_numberBodyAnew_2 : decode cX3_numberBodyAnew 2 = .ok (.iconst 0, 1) := by decide +kernel
theorem dX3_numberBodyAnew_3 : decode cX3_numberBodyAnew 3 = .ok (.istore_n 2, 1) := by decide +kernel
theorem dX3_numberBodyAnew_4 : decode cX3_numberBodyAnew 4 = .ok (.iload_n 2, 1) := by decide +kernel
theorem dX3_numberBodyAnew_5 : decode cX3_numberBodyAnew 5 = .ok (.aload_n 0, 1) := by decide +kernel
theorem dX3_numberBodyAnew_6 : decode cX3_numberBodyAnew 6 = .ok (.getfield 27, 3) := by decide +kernel
theorem dX3_numberBodyAnew_9 : decode cX3_numberBodyAnew 9 = .ok (.invokevirtual 37, 3) := by decide +kernel
theorem dX3_numberBodyAnew_12 : decode cX3_numberBodyAnew 12 = .ok (.if_icmp .ge 50, 3) := by decide +kernel
theorem dX3_numberBodyAnew_15 : decode cX3_numberBodyAnew 15 = .ok (.iload_n 1, 1) := by decide +kernel
theorem dX3_numberBodyAnew_16 : decode cX3_numberBodyAnew 16 = .ok (.aload_n 0, 1) := by decide +kernel
theorem dX3_numberBodyAnew_17 : decode cX3_numberBodyAnew 17 = .ok (.getfield 27, 3) := by decide +kernel
theorem dX3_numberBodyAnew_20 : decode cX3_numberBodyAnew 20 = .ok (.iload_n 2, 1) := by decide +kernel
theorem dX3_numberBodyAnew_21 : decode cX3_numberBodyAnew 21 = .ok (.invokevirtual 45, 3) := by decide +kernel
theorem dX3_numberBodyAnew_24 : decode cX3_numberBodyAnew 24 = .ok (.checkcast 49, 3) := by decide +kernel
theorem dX3_numberBodyAnew_27 : decode cX3_numberBodyAnew 27 = .ok (.getfield 75, 3) := by decide +kernel
theorem dX3_numberBodyAnew_30 : decode cX3_numberBodyAnew 30 = .ok (.iload_n 2, 1) := by decide +kernel
theorem dX3_numberBodyAnew_31 : decode cX3_numberBodyAnew 31 = .ok (.if_icmp .ne 7, 3) := by decide +kernel
theorem dX3_numberBodyAnew_34 : decode cX3_numberBodyAnew 34 = .ok (.iconst 0, 1) := by decide +kernel
theorem dX3_numberBodyAnew_35 : decode cX3_numberBodyAnew 35 = .ok (.goto 4, 3) := by decide +kernel
theorem dX3_numberBodyAnew_38 : decode cX3_numberBodyAnew 38 = .ok (.iconst 1, 1) := by decide +kernel
theorem dX3_numberBodyAnew_39 : decode cX3_numberBodyAnew 39 = .ok (.iadd, 1) := by decide +kernel
theorem dX3_numberBodyAnew_40 : decode cX3_numberBodyAnew 40 = .ok (.istore_n 1, 1) := by decide +kernel
theorem dX3_numberBodyAnew_41 : decode cX3_numberBodyAnew 41 = .ok (.aload_n 0, 1) := by decide +kernel
theorem dX3_numberBodyAnew_42 : decode cX3_numberBodyAnew 42 = .ok (.getfield 27, 3) := by decide +kernel
theorem dX3_numberBodyAnew_45 : decode cX3_numberBodyAnew 45 = .ok (.iload_n 2, 1) := by decide +kernel
theorem dX3_numberBodyAnew_46 : decode cX3_numberBodyAnew 46 = .ok (.invokevirtual 45, 3) := by decide +kernel
theorem dX3_numberBodyAnew_49 : decode cX3_numberBodyAnew 49 = .ok (.checkcast 49, 3) := by decide +kernel
theorem dX3_numberBodyAnew_52 : decode cX3_numberBodyAnew 52 = .ok (.iload_n 2, 1) := by decide +kernel
theorem dX3_numberBodyAnew_53 : decode cX3_numberBodyAnew 53 = .ok (.putfield 75, 3) := by decide +kernel
theorem dX3_numberBodyAnew_56 : decode cX3_numberBodyAnew 56 = .ok (.iinc 2 1, 3) := by decide +kernel
theorem dX3_numberBodyAnew_59 : decode cX3_numberBodyAnew 59 = .ok (.goto (-55), 3) := by decide +kernel
theorem dX3_numberBodyAnew_62 : decode cX3_numberBodyAnew 62 = .ok (.iload_n 1, 1) := by decide +kernel
theorem dX3_numberBodyAnew_63 : decode cX3_numberBodyAnew 63 = .ok (.ireturn, 1) := by decide +kernel
theorem dX3_hasBordered_0 : decode cX3_hasBordered 0 = .ok (.iload_n 1, 1) := by decide +kernel
theorem dX3_hasBordered_1 : decode cX3_hasBordered 1 = .ok (.tableswitch 45 0 2 #[27, 33, 39], 27) := by decide +kernel
theorem dX3_hasBordered_28 : decode cX3_hasBordered 28 = .ok (.aload_n 0, 1) := by decide +kernel
theorem dX3_hasBordered_29 : decode cX3_hasBordered 29 = .ok (.iload_n 2, 1) := by decide +kernel
theorem dX3_hasBordered_30 : decode cX3_hasBordered 30 = .ok (.invokevirtual 164, 3) := by decide +kernel
theorem dX3_hasBordered_33 : decode cX3_hasBordered 33 = .ok (.ireturn, 1) := by decide +kernel
theorem dX3_hasBordered_34 : decode cX3_hasBordered 34 = .ok (.aload_n 0, 1) := by decide +kernel
theorem dX3_hasBordered_35 : decode cX3_hasBordered 35 = .ok (.iload_n 2, 1) := by decide +kernel
theorem dX3_hasBordered_36 : decode cX3_hasBordered 36 = .ok (.invokevirtual 41, 3) := by decide +kernel
theorem dX3_hasBordered_39 : decode cX3_hasBordered 39 = .ok (.ireturn, 1) := by decide +kernel
theorem dX3_hasBordered_40 : decode cX3_hasBordered 40 = .ok (.aload_n 0, 1) := by decide +kernel
theorem dX3_hasBordered_41 : decode cX3_hasBordered 41 = .ok (.iload_n 2, 1) := by decide +kernel
theorem dX3_hasBordered_42 : decode cX3_hasBordered 42 = .ok (.invokevirtual 112, 3) := by decide +kernel
theorem dX3_hasBordered_45 : decode cX3_hasBordered 45 = .ok (.ireturn, 1) := by decide +kernel
theorem dX3_hasBordered_46 : decode cX3_hasBordered 46 = .ok (.iconst 1, 1) := by decide +kernel
theorem dX3_hasBordered_47 : decode cX3_hasBordered 47 = .ok (.ireturn, 1) := by decide +kernel
theorem dX3_putWeight_0 : decode cX3_putWeight 0 = .ok (.iload_n 3, 1) := by decide +kernel
theorem dX3_putWeight_1 : decode cX3_putWeight 1 = .ok (.ifCond .lt 8, 3) := by decide +kernel
theorem dX3_putWeight_4 : decode cX3_putWeight 4 = .ok (.iload_n 3, 1) := by decide +kernel
theorem dX3_putWeight_5 : decode cX3_putWeight 5 = .ok (.iconst 4, 1) := by decide +kernel
theorem dX3_putWeight_6 : decode cX3_putWeight 6 = .ok (.if_icmp .lt 4, 3) := by decide +kernel
theorem dX3_putWeight_9 : decode cX3_putWeight 9 = .ok (.return_, 1) := by decide +kernel
theorem dX3_putWeight_10 : decode cX3_putWeight 10 = .ok (.iload_n 1, 1) := by decide +kernel
theorem dX3_putWeight_11 : decode cX3_putWeight 11 = .ok (.ifCond .ne 32, 3) := by decide +kernel
theorem dX3_putWeight_14 : decode cX3_putWeight 14 = .ok (.aload_n 0, 1) := by decide +kernel
theorem dX3_putWeight_15 : decode cX3_putWeight 15 = .ok (.iload_n 2, 1) := by decide +kernel
theorem dX3_putWeight_16 : decode cX3_putWeight 16 = .ok (.invokevirtual 164, 3) := by decide +kernel
theorem dX3_putWeight_19 : decode cX3_putWeight 19 = .ok (.ifCond .eq 24, 3) := by decide +kernel
theorem dX3_putWeight_22 : decode cX3_putWeight 22 = .ok (.aload_n 0, 1) := by decide +kernel
theorem dX3_putWeight_23 : decode cX3_putWeight 23 = .ok (.getfield 21, 3) := by decide +kernel
theorem dX3_putWeight_26 : decode cX3_putWeight 26 = .ok (.iload_n 2, 1) := by decide +kernel
theorem dX3_putWeight_27 : decode cX3_putWeight 27 = .ok (.invokevirtual 45, 3) := by decide +kernel
theorem dX3_putWeight_30 : decode cX3_putWeight 30 = .ok (.checkcast 85, 3) := by decide +kernel
theorem dX3_putWeight_33 : decode cX3_putWeight 33 = .ok (.getfield 178, 3) := by decide +kernel
theorem dX3_putWeight_36 : decode cX3_putWeight 36 = .ok (.iload_n 3, 1) := by decide +kernel
theorem dX3_putWeight_37 : decode cX3_putWeight 37 = .ok (.iload 4, 2) := by decide +kernel
theorem dX3_putWeight_39 : decode cX3_putWeight 39 = .ok (.iastore, 1) := by decide +kernel
theorem dX3_putWeight_40 : decode cX3_putWeight 40 = .ok (.goto 68, 3) := by decide +kernel
theorem dX3_putWeight_43 : decode cX3_putWeight 43 = .ok (.iload_n 1, 1) := by decide +kernel
theorem dX3_putWeight_44 : decode cX3_putWeight 44 = .ok (.iconst 1, 1) := by decide +kernel
theorem dX3_putWeight_45 : decode cX3_putWeight 45 = .ok (.if_icmp .ne 32, 3) := by decide +kernel
theorem dX3_putWeight_48 : decode cX3_putWeight 48 = .ok (.aload_n 0, 1) := by decide +kernel
theorem dX3_putWeight_49 : decode cX3_putWeight 49 = .ok (.iload_n 2, 1) := by decide +kernel
theorem dX3_putWeight_50 : decode cX3_putWeight 50 = .ok (.invokevirtual 41, 3) := by decide +kernel
theorem dX3_putWeight_53 : decode cX3_putWeight 53 = .ok (.ifCond .eq 24, 3) := by decide +kernel
theorem dX3_putWeight_56 : decode cX3_putWeight 56 = .ok (.aload_n 0, 1) := by decide +kernel
theorem dX3_putWeight_57 : decode cX3_putWeight 57 = .ok (.getfield 18, 3) := by decide +kernel
theorem dX3_putWeight_60 : decode cX3_putWeight 60 = .ok (.iload_n 2, 1) := by decide +kernel
theorem dX3_putWeight_61 : decode cX3_putWeight 61 = .ok (.invokevirtual 45, 3) := by decide +kernel
theorem dX3_putWeight_64 : decode cX3_putWeight 64 = .ok (.checkcast 49, 3) := by decide +kernel
theorem dX3_putWeight_67 : decode cX3_putWeight 67 = .ok (.getfield 181, 3) := by decide +kernel
theorem dX3_putWeight_70 : decode cX3_putWeight 70 = .ok (.iload_n 3, 1) := by decide +kernel
theorem dX3_putWeight_71 : decode cX3_putWeight 71 = .ok (.iload 4, 2) := by decide +kernel
theorem dX3_putWeight_73 : decode cX3_putWeight 73 = .ok (.iastore, 1) := by decide +kernel
theorem dX3_putWeight_74 : decode cX3_putWeight 74 = .ok (.goto 34, 3) := by decide +kernel
theorem dX3_putWeight_77 : decode cX3_putWeight 77 = .ok (.iload_n 1, 1) := by decide +kernel
theorem dX3_putWeight_78 : decode cX3_putWeight 78 = .ok (.iconst 2, 1) := by decide +kernel
theorem dX3_putWeight_79 : decode cX3_putWeight 79 = .ok (.if_icmp .ne 29, 3) := by decide +kernel
theorem dX3_putWeight_82 : decode cX3_putWeight 82 = .ok (.aload_n 0, 1) := by decide +kernel
theorem dX3_putWeight_83 : decode cX3_putWeight 83 = .ok (.iload_n 2, 1) := by decide +kernel
theorem dX3_putWeight_84 : decode cX3_putWeight 84 = .ok (.invokevirtual 112, 3) := by decide +kernel
theorem dX3_putWeight_87 : decode cX3_putWeight 87 = .ok (.ifCond .eq 21, 3) := by decide +kernel
theorem dX3_putWeight_90 : decode cX3_putWeight 90 = .ok (.aload_n 0, 1) := by decide +kernel
theorem dX3_putWeight_91 : decode cX3_putWeight 91 = .ok (.getfield 12, 3) := by decide +kernel
theorem dX3_putWeight_94 : decode cX3_putWeight 94 = .ok (.iload_n 2, 1) := by decide +kernel
theorem dX3_putWeight_95 : decode cX3_putWeight 95 = .ok (.invokevirtual 45, 3) := by decide +kernel
theorem dX3_putWeight_98 : decode cX3_putWeight 98 = .ok (.checkcast 63, 3) := by decide +kernel
theorem dX3_putWeight_101 : decode cX3_putWeight 101 = .ok (.getfield 182, 3) := by decide +kernel
theorem dX3_putWeight_104 : decode cX3_putWeight 104 = .ok (.iload_n 3, 1) := by decide +kernel
theorem dX3_putWeight_105 : decode cX3_putWeight 105 = .ok (.iload 4, 2) := by decide +kernel
theorem dX3_putWeight_107 : decode cX3_putWeight 107 = .ok (.iastore, 1) := by decide +kernel
theorem dX3_putWeight_108 : decode cX3_putWeight 108 = .ok (.return_, 1) := by decide +kernel
theorem dX3_weightOf_0 : decode cX3_weightOf 0 = .ok (.iload_n 3, 1) := by decide +kernel
theorem dX3_weightOf_1 : decode cX3_weightOf 1 = .ok (.ifCond .lt 8, 3) := by decide +kernel
theorem dX3_weightOf_4 : decode cX3_weightOf 4 = .ok (.iload_n 3, 1) := by decide +kernel
theorem dX3_weightOf_5 : decode cX3_weightOf 5 = .ok (.iconst 4, 1) := by decide +kernel
theorem dX3_weightOf_6 : decode cX3_weightOf 6 = .ok (.if_icmp .lt 5, 3) := by decide +kernel
theorem dX3_weightOf_9 : decode cX3_weightOf 9 = .ok (.iconst 0, 1) := by decide +kernel
theorem dX3_weightOf_10 : decode cX3_weightOf 10 = .ok (.ireturn, 1) := by decide +kernel
theorem dX3_weightOf_11 : decode cX3_weightOf 11 = .ok (.iload_n 1, 1) := by decide +kernel
theorem dX3_weightOf_12 : decode cX3_weightOf 12 = .ok (.ifCond .ne 28, 3) := by decide +kernel
theorem dX3_weightOf_15 : decode cX3_weightOf 15 = .ok (.aload_n 0, 1) := by decide +kernel
theorem dX3_weightOf_16 : decode cX3_weightOf 16 = .ok (.iload_n 2, 1) := by decide +kernel
theorem dX3_weightOf_17 : decode cX3_weightOf 17 = .ok (.invokevirtual 164, 3) := by decide +kernel
theorem dX3_weightOf_20 : decode cX3_weightOf 20 = .ok (.ifCond .eq 20, 3) := by decide +kernel
theorem dX3_weightOf_23 : decode cX3_weightOf 23 = .ok (.aload_n 0, 1) := by decide +kernel
theorem dX3_weightOf_24 : decode cX3_weightOf 24 = .ok (.getfield 21, 3) := by decide +kernel
theorem dX3_weightOf_27 : decode cX3_weightOf 27 = .ok (.iload_n 2, 1) := by decide +kernel
theorem dX3_weightOf_28 : decode cX3_weightOf 28 = .ok (.invokevirtual 45, 3) := by decide +kernel
theorem dX3_weightOf_31 : decode cX3_weightOf 31 = .ok (.checkcast 85, 3) := by decide +kernel
theorem dX3_weightOf_34 : decode cX3_weightOf 34 = .ok (.getfield 178, 3) := by decide +kernel
theorem dX3_weightOf_37 : decode cX3_weightOf 37 = .ok (.iload_n 3, 1) := by decide +kernel
theorem dX3_weightOf_38 : decode cX3_weightOf 38 = .ok (.iaload, 1) := by decide +kernel
theorem dX3_weightOf_39 : decode cX3_weightOf 39 = .ok (.ireturn, 1) := by decide +kernel
theorem dX3_weightOf_40 : decode cX3_weightOf 40 = .ok (.iload_n 1, 1) := by decide +kernel
theorem dX3_weightOf_41 : decode cX3_weightOf 41 = .ok (.iconst 1, 1) := by decide +kernel
theorem dX3_weightOf_42 : decode cX3_weightOf 42 = .ok (.if_icmp .ne 28, 3) := by decide +kernel
theorem dX3_weightOf_45 : decode cX3_weightOf 45 = .ok (.aload_n 0, 1) := by decide +kernel
theorem dX3_weightOf_46 : decode cX3_weightOf 46 = .ok (.iload_n 2, 1) := by decide +kernel
theorem dX3_weightOf_47 : decode cX3_weightOf 47 = .ok (.invokevirtual 41, 3) := by decide +kernel
theorem dX3_weightOf_50 : decode cX3_weightOf 50 = .ok (.ifCond .eq 20, 3) := by decide +kernel
theorem dX3_weightOf_53 : decode cX3_weightOf 53 = .ok (.aload_n 0, 1) := by decide +kernel
theorem dX3_weightOf_54 : decode cX3_weightOf 54 = .ok (.getfield 18, 3) := by decide +kernel
theorem dX3_weightOf_57 : decode cX3_weightOf 57 = .ok (.iload_n 2, 1) := by decide +kernel
theorem dX3_weightOf_58 : decode cX3_weightOf 58 = .ok (.invokevirtual 45, 3) := by decide +kernel
theorem dX3_weightOf_61 : decode cX3_weightOf 61 = .ok (.checkcast 49, 3) := by decide +kernel
theorem dX3_weightOf_64 : decode cX3_weightOf 64 = .ok (.getfield 181, 3) := by decide +kernel
theorem dX3_weightOf_67 : decode cX3_weightOf 67 = .ok (.iload_n 3, 1) := by decide +kernel
theorem dX3_weightOf_68 : decode cX3_weightOf 68 = .ok (.iaload, 1) := by decide +kernel
theorem dX3_weightOf_69 : decode cX3_weightOf 69 = .ok (.ireturn, 1) := by decide +kernel
theorem dX3_weightOf_70 : decode cX3_weightOf 70 = .ok (.iload_n 1, 1) := by decide +kernel
theorem dX3_weightOf_71 : decode cX3_weightOf 71 = .ok (.iconst 2, 1) := by decide +kernel
theorem dX3_weightOf_72 : decode cX3_weightOf 72 = .ok (.if_icmp .ne 30, 3) := by decide +kernel
theorem dX3_weightOf_75 : decode cX3_weightOf 75 = .ok (.aload_n 0, 1) := by decide +kernel
theorem dX3_weightOf_76 : decode cX3_weightOf 76 = .ok (.iload_n 2, 1) := by decide +kernel
theorem dX3_weightOf_77 : decode cX3_weightOf 77 = .ok (.invokevirtual 112, 3) := by decide +kernel
theorem dX3_weightOf_80 : decode cX3_weightOf 80 = .ok (.ifCond .eq 22, 3) := by decide +kernel
theorem dX3_weightOf_83 : decode cX3_weightOf 83 = .ok (.aload_n 0, 1) := by decide +kernel
theorem dX3_weightOf_84 : decode cX3_weightOf 84 = .ok (.getfield 12, 3) := by decide +kernel
theorem dX3_weightOf_87 : decode cX3_weightOf 87 = .ok (.iload_n 2, 1) := by decide +kernel
theorem dX3_weightOf_88 : decode cX3_weightOf 88 = .ok (.invokevirtual 45, 3) := by decide +kernel
theorem dX3_weightOf_91 : decode cX3_weightOf 91 = .ok (.checkcast 63, 3) := by decide +kernel
theorem dX3_weightOf_94 : decode cX3_weightOf 94 = .ok (.getfield 182, 3) := by decide +kernel
theorem dX3_weightOf_97 : decode cX3_weightOf 97 = .ok (.iload_n 3, 1) := by decide +kernel
theorem dX3_weightOf_98 : decode cX3_weightOf 98 = .ok (.iaload, 1) := by decide +kernel
theorem dX3_weightOf_99 : decode cX3_weightOf 99 = .ok (.goto 4, 3) := by decide +kernel
theorem dX3_weightOf_102 : decode cX3_weightOf 102 = .ok (.iconst 0, 1) := by decide +kernel
theorem dX3_weightOf_103 : decode cX3_weightOf 103 = .ok (.ireturn, 1) := by decide +kernel
theorem dX3_greaterWeight_0 : decode cX3_greaterWeight 0 = .ok (.iload 4, 2) := by decide +kernel
theorem dX3_greaterWeight_2 : decode cX3_greaterWeight 2 = .ok (.iconst 2, 1) := by decide +kernel
theorem dX3_greaterWeight_3 : decode cX3_greaterWeight 3 = .ok (.iadd, 1) := by decide +kernel
theorem dX3_greaterWeight_4 : decode cX3_greaterWeight 4 = .ok (.iconst 4, 1) := by decide +kernel
theorem dX3_greaterWeight_5 : decode cX3_greaterWeight 5 = .ok (.irem, 1) := by decide +kernel
theorem dX3_greaterWeight_6 : decode cX3_greaterWeight 6 = .ok (.istore 5, 2) := by decide +kernel
theorem dX3_greaterWeight_8 : decode cX3_greaterWeight 8 = .ok (.aload_n 0, 1) := by decide +kernel
theorem dX3_greaterWeight_9 : decode cX3_greaterWeight 9 = .ok (.iload_n 1, 1) := by decide +kernel
theorem dX3_greaterWeight_10 : decode cX3_greaterWeight 10 = .ok (.iload_n 2, 1) := by decide +kernel
theorem dX3_greaterWeight_11 : decode cX3_greaterWeight 11 = .ok (.iload 4, 2) := by decide +kernel
theorem dX3_greaterWeight_13 : decode cX3_greaterWeight 13 = .ok (.invokevirtual 170, 3) := by decide +kernel
theorem dX3_greaterWeight_16 : decode cX3_greaterWeight 16 = .ok (.aload_n 0, 1) := by decide +kernel
theorem dX3_greaterWeight_17 : decode cX3_greaterWeight 17 = .ok (.iload_n 1, 1) := by decide +kernel
theorem dX3_greaterWeight_18 : decode cX3_greaterWeight 18 = .ok (.iload_n 3, 1) := by decide +kernel
theorem dX3_greaterWeight_19 : decode cX3_greaterWeight 19 = .ok (.iload 5, 2) := by decide +kernel
theorem dX3_greaterWeight_21 : decode cX3_greaterWeight 21 = .ok (.invokevirtual 170, 3) := by decide +kernel
theorem dX3_greaterWeight_24 : decode cX3_greaterWeight 24 = .ok (.invokestatic 133, 3) := by decide +kernel
theorem dX3_greaterWeight_27 : decode cX3_greaterWeight 27 = .ok (.ireturn, 1) := by decide +kernel
theorem dX3_rowStandingAt_0 : decode cX3_rowStandingAt 0 = .ok (.iload_n 1, 1) := by decide +kernel
theorem dX3_rowStandingAt_1 : decode cX3_rowStandingAt 1 = .ok (.aload_n 0, 1) := by decide +kernel
theorem dX3_rowStandingAt_2 : decode cX3_rowStandingAt 2 = .ok (.getfield 24, 3) := by decide +kernel
theorem dX3_rowStandingAt_5 : decode cX3_rowStandingAt 5 = .ok (.invokevirtual 37, 3) := by decide +kernel
theorem dX3_rowStandingAt_8 : decode cX3_rowStandingAt 8 = .ok (.isub, 1) := by decide +kernel
theorem dX3_rowStandingAt_9 : decode cX3_rowStandingAt 9 = .ok (.istore_n 2, 1) := by decide +kernel
theorem dX3_rowStandingAt_10 : decode cX3_rowStandingAt 10 = .ok (.iload_n 2, 1) := by decide +kernel
theorem dX3_rowStandingAt_11 : decode cX3_rowStandingAt 11 = .ok (.aload_n 0, 1) := by decide +kernel
theorem dX3_rowStandingAt_12 : decode cX3_rowStandingAt 12 = .ok (.getfield 27, 3) := by decide +kernel
theorem dX3_rowStandingAt_15 : decode cX3_rowStandingAt 15 = .ok (.invokevirtual 37, 3) := by decide +kernel
theorem dX3_rowStandingAt_18 : decode cX3_rowStandingAt 18 = .ok (.isub, 1) := by decide +kernel
theorem dX3_rowStandingAt_19 : decode cX3_rowStandingAt 19 = .ok (.istore_n 3, 1) := by decide +kernel
theorem dX3_rowStandingAt_20 : decode cX3_rowStandingAt 20 = .ok (.iload_n 1, 1) := by decide +kernel
theorem dX3_rowStandingAt_21 : decode cX3_rowStandingAt 21 = .ok (.ifCond .lt 14, 3) := by decide +kernel
theorem dX3_rowStandingAt_24 : decode cX3_rowStandingAt 24 = .ok (.iload_n 3, 1) := by decide +kernel
theorem dX3_rowStandingAt_25 : decode cX3_rowStandingAt 25 = .ok (.aload_n 0, 1) := by decide +kernel
theorem dX3_rowStandingAt_26 : decode cX3_rowStandingAt 26 = .ok (.getfield 30, 3) := by decide +kernel
theorem dX3_rowStandingAt_29 : decode cX3_rowStandingAt 29 = .ok (.invokevirtual 37, 3) := by decide +kernel
theorem dX3_rowStandingAt_32 : decode cX3_rowStandingAt 32 = .ok (.if_icmp .lt 5, 3) := by decide +kernel
theorem dX3_rowStandingAt_35 : decode cX3_rowStandingAt 35 = .ok (.iconst (-1), 1) := by decide +kernel
theorem dX3_rowStandingAt_36 : decode cX3_rowStandingAt 36 = .ok (.ireturn, 1) := by decide +kernel
theorem dX3_rowStandingAt_37 : decode cX3_rowStandingAt 37 = .ok (.iload_n 3, 1) := by decide +kernel
theorem dX3_rowStandingAt_38 : decode cX3_rowStandingAt 38 = .ok (.ifCond .lt 18, 3) := by decide +kernel
theorem dX3_rowStandingAt_41 : decode cX3_rowStandingAt 41 = .ok (.aload_n 0, 1) := by decide +kernel
theorem dX3_rowStandingAt_42 : decode cX3_rowStandingAt 42 = .ok (.getfield 30, 3) := by decide +kernel
theorem dX3_rowStandingAt_45 : decode cX3_rowStandingAt 45 = .ok (.iload_n 3, 1) := by decide +kernel
theorem dX3_rowStandingAt_46 : decode cX3_rowStandingAt 46 = .ok (.invokevirtual 45, 3) := by decide +kernel
theorem dX3_rowStandingAt_49 : decode cX3_rowStandingAt 49 = .ok (.checkcast 49, 3) := by decide +kernel
theorem dX3_rowStandingAt_52 : decode cX3_rowStandingAt 52 = .ok (.getfield 78, 3) := by decide +kernel
theorem dX3_rowStandingAt_55 : decode cX3_rowStandingAt 55 = .ok (.ireturn, 1) := by decide +kernel
theorem dX3_rowStandingAt_56 : decode cX3_rowStandingAt 56 = .ok (.iload_n 2, 1) := by decide +kernel
theorem dX3_rowStandingAt_57 : decode cX3_rowStandingAt 57 = .ok (.ifCond .lt 20, 3) := by decide +kernel
theorem dX3_rowStandingAt_60 : decode cX3_rowStandingAt 60 = .ok (.aload_n 0, 1) := by decide +kernel
theorem dX3_rowStandingAt_61 : decode cX3_rowStandingAt 61 = .ok (.getfield 27, 3) := by decide +kernel
theorem dX3_rowStandingAt_64 : decode cX3_rowStandingAt 64 = .ok (.iload_n 2, 1) := by decide +kernel
theorem dX3_rowStandingAt_65 : decode cX3_rowStandingAt 65 = .ok (.invokevirtual 45, 3) := by decide +kernel
theorem dX3_rowStandingAt_68 : decode cX3_rowStandingAt 68 = .ok (.checkcast 49, 3) := by decide +kernel
theorem dX3_rowStandingAt_71 : decode cX3_rowStandingAt 71 = .ok (.getfield 78, 3) := by decide +kernel
theorem dX3_rowStandingAt_74 : decode cX3_rowStandingAt 74 = .ok (.goto 17, 3) := by decide +kernel
theorem dX3_rowStandingAt_77 : decode cX3_rowStandingAt 77 = .ok (.aload_n 0, 1) := by decide +kernel
theorem dX3_rowStandingAt_78 : decode cX3_rowStandingAt 78 = .ok (.getfield 24, 3) := by decide +kernel
theorem dX3_rowStandingAt_81 : decode cX3_rowStandingAt 81 = .ok (.iload_n 1, 1) := by decide +kernel
theorem dX3_rowStandingAt_82 : decode cX3_rowStandingAt 82 = .ok (.invokevirtual 45, 3) := by decide +kernel
theorem dX3_rowStandingAt_85 : decode cX3_rowStandingAt 85 = .ok (.checkcast 49, 3) := by decide +kernel
theorem dX3_rowStandingAt_88 : decode cX3_rowStandingAt 88 = .ok (.getfield 78, 3) := by decide +kernel
theorem dX3_rowStandingAt_91 : decode cX3_rowStandingAt 91 = .ok (.ireturn, 1) := by decide +kernel
theorem dX3_columnBeside_0 : decode cX3_columnBeside 0 = .ok (.iload_n 1, 1) := by decide +kernel
theorem dX3_columnBeside_1 : decode cX3_columnBeside 1 = .ok (.istore_n 3, 1) := by decide +kernel
theorem dX3_columnBeside_2 : decode cX3_columnBeside 2 = .ok (.iconst 0, 1) := by decide +kernel
theorem dX3_columnBeside_3 : decode cX3_columnBeside 3 = .ok (.istore 4, 2) := by decide +kernel
theorem dX3_columnBeside_5 : decode cX3_columnBeside 5 = .ok (.iload 4, 2) := by decide +kernel
theorem dX3_columnBeside_7 : decode cX3_columnBeside 7 = .ok (.bipush 6, 2) := by decide +kernel
theorem dX3_columnBeside_9 : decode cX3_columnBeside 9 = .ok (.if_icmp .ge 23, 3) := by decide +kernel
theorem dX3_columnBeside_12 : decode cX3_columnBeside 12 = .ok (.iload_n 3, 1) := by decide +kernel
theorem dX3_columnBeside_13 : decode cX3_columnBeside 13 = .ok (.iload_n 2, 1) := by decide +kernel
theorem dX3_columnBeside_14 : decode cX3_columnBeside 14 = .ok (.iadd, 1) := by decide +kernel
theorem dX3_columnBeside_15 : decode cX3_columnBeside 15 = .ok (.istore_n 3, 1) := by decide +kernel
theorem dX3_columnBeside_16 : decode cX3_columnBeside 16 = .ok (.aload_n 0, 1) := by decide +kernel
theorem dX3_columnBeside_17 : decode cX3_columnBeside 17 = .ok (.iload_n 3, 1) := by decide +kernel
theorem dX3_columnBeside_18 : decode cX3_columnBeside 18 = .ok (.invokevirtual 115, 3) := by decide +kernel
theorem dX3_columnBeside_21 : decode cX3_columnBeside 21 = .ok (.ifCond .eq 5, 3) := by decide +kernel
theorem dX3_columnBeside_24 : decode cX3_columnBeside 24 = .ok (.iload_n 3, 1) := by decide +kernel
theorem dX3_columnBeside_25 : decode cX3_columnBeside 25 = .ok (.ireturn, 1) := by decide +kernel
theorem dX3_columnBeside_26 : decode cX3_columnBeside 26 = .ok (.iinc 4 1, 3) := by decide +kernel
theorem dX3_columnBeside_29 : decode cX3_columnBeside 29 = .ok (.goto (-24), 3) := by decide +kernel
theorem dX3_columnBeside_32 : decode cX3_columnBeside 32 = .ok (.iconst (-1), 1) := by decide +kernel
theorem dX3_columnBeside_33 : decode cX3_columnBeside 33 = .ok (.ireturn, 1) := by decide +kernel
theorem dX4_lengthenLastRow_0 : decode cX4_lengthenLastRow 0 = .ok (.aload_n 0, 1) := by decide +kernel
theorem dX4_lengthenLastRow_1 : decode cX4_lengthenLastRow 1 = .ok (.getfield 18, 3) := by decide +kernel
theorem dX4_lengthenLastRow_4 : decode cX4_lengthenLastRow 4 = .ok (.aload_n 1, 1) := by decide +kernel
theorem dX4_lengthenLastRow_5 : decode cX4_lengthenLastRow 5 = .ok (.getfield 58, 3) := by decide +kernel
theorem dX4_lengthenLastRow_8 : decode cX4_lengthenLastRow 8 = .ok (.getfield 81, 3) := by decide +kernel
theorem dX4_lengthenLastRow_11 : decode cX4_lengthenLastRow 11 = .ok (.invokevirtual 84, 3) := by decide +kernel
theorem dX4_lengthenLastRow_14 : decode cX4_lengthenLastRow 14 = .ok (.astore_n 3, 1) := by decide +kernel
theorem dX4_lengthenLastRow_15 : decode cX4_lengthenLastRow 15 = .ok (.aload_n 1, 1) := by decide +kernel
theorem dX4_lengthenLastRow_16 : decode cX4_lengthenLastRow 16 = .ok (.getfield 58, 3) := by decide +kernel
theorem dX4_lengthenLastRow_19 : decode cX4_lengthenLastRow 19 = .ok (.getfield 88, 3) := by decide +kernel
theorem dX4_lengthenLastRow_22 : decode cX4_lengthenLastRow 22 = .ok (.aload_n 1, 1) := by decide +kernel
theorem dX4_lengthenLastRow_23 : decode cX4_lengthenLastRow 23 = .ok (.getfield 68, 3) := by decide +kernel
theorem dX4_lengthenLastRow_26 : decode cX4_lengthenLastRow 26 = .ok (.iadd, 1) := by decide +kernel
theorem dX4_lengthenLastRow_27 : decode cX4_lengthenLastRow 27 = .ok (.aload_n 3, 1) := by decide +kernel
theorem dX4_lengthenLastRow_28 : decode cX4_lengthenLastRow 28 = .ok (.invokevirtual 28, 3) := by decide +kernel
theorem dX4_lengthenLastRow_31 : decode cX4_lengthenLastRow 31 = .ok (.invokestatic 91, 3) := by decide +kernel
theorem dX4_lengthenLastRow_34 : decode cX4_lengthenLastRow 34 = .ok (.istore 4, 2) := by decide +kernel
theorem dX4_lengthenLastRow_36 : decode cX4_lengthenLastRow 36 = .ok (.iload_n 2, 1) := by decide +kernel
theorem dX4_lengthenLastRow_37 : decode cX4_lengthenLastRow 37 = .ok (.istore 5, 2) := by decide +kernel
theorem dX4_lengthenLastRow_39 : decode cX4_lengthenLastRow 39 = .ok (.iconst (-1), 1) := by decide +kernel
theorem dX4_lengthenLastRow_40 : decode cX4_lengthenLastRow 40 = .ok (.istore 6, 2) := by decide +kernel
theorem dX4_lengthenLastRow_42 : decode cX4_lengthenLastRow 42 = .ok (.aload_n 1, 1) := by decide +kernel
theorem dX4_lengthenLastRow_43 : decode cX4_lengthenLastRow 43 = .ok (.getfield 58, 3) := by decide +kernel
theorem dX4_lengthenLastRow_46 : decode cX4_lengthenLastRow 46 = .ok (.getfield 88, 3) := by decide +kernel
theorem dX4_lengthenLastRow_49 : decode cX4_lengthenLastRow 49 = .ok (.istore 7, 2) := by decide +kernel
theorem dX4_lengthenLastRow_51 : decode cX4_lengthenLastRow 51 = .ok (.iload 7, 2) := by decide +kernel
theorem dX4_lengthenLastRow_53 : decode cX4_lengthenLastRow 53 = .ok (.iload 4, 2) := by decide +kernel
theorem dX4_lengthenLastRow_55 : decode cX4_lengthenLastRow 55 = .ok (.if_icmp .ge 46, 3) := by decide +kernel
theorem dX4_lengthenLastRow_58 : decode cX4_lengthenLastRow 58 = .ok (.aload_n 3, 1) := by decide +kernel
theorem dX4_lengthenLastRow_59 : decode cX4_lengthenLastRow 59 = .ok (.iload 7, 2) := by decide +kernel
theorem dX4_lengthenLastRow_61 : decode cX4_lengthenLastRow 61 = .ok (.invokevirtual 34, 3) := by decide +kernel
theorem dX4_lengthenLastRow_64 : decode cX4_lengthenLastRow 64 = .ok (.checkcast 63, 3) := by decide +kernel
theorem dX4_lengthenLastRow_67 : decode cX4_lengthenLastRow 67 = .ok (.getfield 62, 3) := by decide +kernel
theorem dX4_lengthenLastRow_70 : decode cX4_lengthenLastRow 70 = .ok (.istore 6, 2) := by decide +kernel
theorem dX4_lengthenLastRow_72 : decode cX4_lengthenLastRow 72 = .ok (.iload 5, 2) := by decide +kernel
theorem dX4_lengthenLastRow_74 : decode cX4_lengthenLastRow 74 = .ok (.iload 6, 2) := by decide +kernel
theorem dX4_lengthenLastRow_76 : decode cX4_lengthenLastRow 76 = .ok (.bipush 29, 2) := by decide +kernel
theorem dX4_lengthenLastRow_78 : decode cX4_lengthenLastRow 78 = .ok (.if_icmp .ge 13, 3) := by decide +kernel
theorem dX4_lengthenLastRow_81 : decode cX4_lengthenLastRow 81 = .ok (.aload_n 0, 1) := by decide +kernel
theorem dX4_lengthenLastRow_82 : decode cX4_lengthenLastRow 82 = .ok (.getfield 15, 3) := by decide +kernel
theorem dX4_lengthenLastRow_85 : decode cX4_lengthenLastRow 85 = .ok (.iload 6, 2) := by decide +kernel
theorem dX4_lengthenLastRow_87 : decode cX4_lengthenLastRow 87 = .ok (.iaload, 1) := by decide +kernel
theorem dX4_lengthenLastRow_88 : decode cX4_lengthenLastRow 88 = .ok (.goto 4, 3) := by decide +kernel
theorem dX4_lengthenLastRow_91 : decode cX4_lengthenLastRow 91 = .ok (.iconst 0, 1) := by decide +kernel
theorem dX4_lengthenLastRow_92 : decode cX4_lengthenLastRow 92 = .ok (.isub, 1) := by decide +kernel
theorem dX4_lengthenLastRow_93 : decode cX4_lengthenLastRow 93 = .ok (.istore 5, 2) := by decide +kernel
theorem dX4_lengthenLastRow_95 : decode cX4_lengthenLastRow 95 = .ok (.iinc 7 1, 3) := by decide +kernel
theorem dX4_lengthenLastRow_98 : decode cX4_lengthenLastRow 98 = .ok (.goto (-47), 3) := by decide +kernel
theorem dX4_lengthenLastRow_101 : decode cX4_lengthenLastRow 101 = .ok (.iload 5, 2) := by decide +kernel
theorem dX4_lengthenLastRow_103 : decode cX4_lengthenLastRow 103 = .ok (.ifCond .le 27, 3) := by decide +kernel
theorem dX4_lengthenLastRow_106 : decode cX4_lengthenLastRow 106 = .ok (.iload 6, 2) := by decide +kernel
theorem dX4_lengthenLastRow_108 : decode cX4_lengthenLastRow 108 = .ok (.ifCond .lt 22, 3) := by decide +kernel
theorem dX4_lengthenLastRow_111 : decode cX4_lengthenLastRow 111 = .ok (.iload 6, 2) := by decide +kernel
theorem dX4_lengthenLastRow_113 : decode cX4_lengthenLastRow 113 = .ok (.bipush 29, 2) := by decide +kernel
theorem dX4_lengthenLastRow_115 : decode cX4_lengthenLastRow 115 = .ok (.if_icmp .ge 15, 3) := by decide +kernel
theorem dX4_lengthenLastRow_118 : decode cX4_lengthenLastRow 118 = .ok (.aload_n 0, 1) := by decide +kernel
theorem dX4_lengthenLastRow_119 : decode cX4_lengthenLastRow 119 = .ok (.getfield 15, 3) := by decide +kernel
theorem dX4_lengthenLastRow_122 : decode cX4_lengthenLastRow 122 = .ok (.iload 6, 2) := by decide +kernel
theorem dX4_lengthenLastRow_124 : decode cX4_lengthenLastRow 124 = .ok (.dup2, 1) := by decide +kernel
theorem dX4_lengthenLastRow_125 : decode cX4_lengthenLastRow 125 = .ok (.iaload, 1) := by decide +kernel
theorem dX4_lengthenLastRow_126 : decode cX4_lengthenLastRow 126 = .ok (.iload 5, 2) := by decide +kernel
theorem dX4_lengthenLastRow_128 : decode cX4_lengthenLastRow 128 = .ok (.iadd, 1) := by decide +kernel
theorem dX4_lengthenLastRow_129 : decode cX4_lengthenLastRow 129 = .ok (.iastore, 1) := by decide +kernel
theorem dX4_lengthenLastRow_130 : decode cX4_lengthenLastRow 130 = .ok (.return_, 1) := by decide +kernel
theorem dX4_heightOfPart_0 : decode cX4_heightOfPart 0 = .ok (.aload_n 0, 1) := by decide +kernel
theorem dX4_heightOfPart_1 : decode cX4_heightOfPart 1 = .ok (.getfield 18, 3) := by decide +kernel
theorem dX4_heightOfPart_4 : decode cX4_heightOfPart 4 = .ok (.iload_n 1, 1) := by decide +kernel
theorem dX4_heightOfPart_5 : decode cX4_heightOfPart 5 = .ok (.invokevirtual 84, 3) := by decide +kernel
theorem dX4_heightOfPart_8 : decode cX4_heightOfPart 8 = .ok (.astore_n 2, 1) := by decide +kernel
theorem dX4_heightOfPart_9 : decode cX4_heightOfPart 9 = .ok (.iconst 0, 1) := by decide +kernel
theorem dX4_heightOfPart_10 : decode cX4_heightOfPart 10 = .ok (.istore_n 3, 1) := by decide +kernel
theorem dX4_heightOfPart_11 : decode cX4_heightOfPart 11 = .ok (.iconst 0, 1) := by decide +kernel
theorem dX4_heightOfPart_12 : decode cX4_heightOfPart 12 = .ok (.istore 4, 2) := by decide +kernel
theorem dX4_heightOfPart_14 : decode cX4_heightOfPart 14 = .ok (.iload 4, 2) := by decide +kernel
theorem dX4_heightOfPart_16 : decode cX4_heightOfPart 16 = .ok (.aload_n 2, 1) := by decide +kernel
theorem dX4_heightOfPart_17 : decode cX4_heightOfPart 17 = .ok (.invokevirtual 28, 3) := by decide +kernel
theorem dX4_heightOfPart_20 : decode cX4_heightOfPart 20 = .ok (.if_icmp .ge 44, 3) := by decide +kernel
theorem dX4_heightOfPart_23 : decode cX4_heightOfPart 23 = .ok (.aload_n 2, 1) := by decide +kernel
theorem dX4_heightOfPart_24 : decode cX4_heightOfPart 24 = .ok (.iload 4, 2) := by decide +kernel
theorem dX4_heightOfPart_26 : decode cX4_heightOfPart 26 = .ok (.invokevirtual 34, 3) := by decide +kernel
theorem dX4_heightOfPart_29 : decode cX4_heightOfPart 29 = .ok (.checkcast 63, 3) := by decide +kernel
theorem dX4_heightOfPart_32 : decode cX4_heightOfPart 32 = .ok (.getfield 62, 3) := by decide +kernel
theorem dX4_heightOfPart_35 : decode cX4_heightOfPart 35 = .ok (.istore 5, 2) := by decide +kernel
theorem dX4_heightOfPart_37 : decode cX4_heightOfPart 37 = .ok (.iload_n 3, 1) := by decide +kernel
theorem dX4_heightOfPart_38 : decode cX4_heightOfPart 38 = .ok (.iload 5, 2) := by decide +kernel
theorem dX4_heightOfPart_40 : decode cX4_heightOfPart 40 = .ok (.bipush 29, 2) := by decide +kernel
theorem dX4_heightOfPart_42 : decode cX4_heightOfPart 42 = .ok (.if_icmp .ge 13, 3) := by decide +kernel
theorem dX4_heightOfPart_45 : decode cX4_heightOfPart 45 = .ok (.aload_n 0, 1) := by decide +kernel
theorem dX4_heightOfPart_46 : decode cX4_heightOfPart 46 = .ok (.getfield 15, 3) := by decide +kernel
theorem dX4_heightOfPart_49 : decode cX4_heightOfPart 49 = .ok (.iload 5, 2) := by decide +kernel
theorem dX4_heightOfPart_51 : decode cX4_heightOfPart 51 = .ok (.iaload, 1) := by decide +kernel
theorem dX4_heightOfPart_52 : decode cX4_heightOfPart 52 = .ok (.goto 4, 3) := by decide +kernel
theorem dX4_heightOfPart_55 : decode cX4_heightOfPart 55 = .ok (.iconst 0, 1) := by decide +kernel
theorem dX4_heightOfPart_56 : decode cX4_heightOfPart 56 = .ok (.iadd, 1) := by decide +kernel
theorem dX4_heightOfPart_57 : decode cX4_heightOfPart 57 = .ok (.istore_n 3, 1) := by decide +kernel
theorem dX4_heightOfPart_58 : decode cX4_heightOfPart 58 = .ok (.iinc 4 1, 3) := by decide +kernel
theorem dX4_heightOfPart_61 : decode cX4_heightOfPart 61 = .ok (.goto (-47), 3) := by decide +kernel
theorem dX4_heightOfPart_64 : decode cX4_heightOfPart 64 = .ok (.iload_n 3, 1) := by decide +kernel
theorem dX4_heightOfPart_65 : decode cX4_heightOfPart 65 = .ok (.ireturn, 1) := by decide +kernel
theorem dX6_clear_0 : decode cX6_clear 0 = .ok (.aload_n 0, 1) := by decide +kernel
theorem dX6_clear_1 : decode cX6_clear 1 = .ok (.iload_n 1, 1) := by decide +kernel
theorem dX6_clear_2 : decode cX6_clear 2 = .ok (.putfield 36, 3) := by decide +kernel
theorem dX6_clear_5 : decode cX6_clear 5 = .ok (.aload_n 0, 1) := by decide +kernel
theorem dX6_clear_6 : decode cX6_clear 6 = .ok (.iconst 1, 1) := by decide +kernel
theorem dX6_clear_7 : decode cX6_clear 7 = .ok (.putfield 40, 3) := by decide +kernel
theorem dX6_clear_10 : decode cX6_clear 10 = .ok (.aload_n 0, 1) := by decide +kernel
theorem dX6_clear_11 : decode cX6_clear 11 = .ok (.iconst 0, 1) := by decide +kernel
theorem dX6_clear_12 : decode cX6_clear 12 = .ok (.putfield 44, 3) := by decide +kernel
theorem dX6_clear_15 : decode cX6_clear 15 = .ok (.aload_n 0, 1) := by decide +kernel
theorem dX6_clear_16 : decode cX6_clear 16 = .ok (.iconst 0, 1) := by decide +kernel
theorem dX6_clear_17 : decode cX6_clear 17 = .ok (.putfield 47, 3) := by decide +kernel
theorem dX6_clear_20 : decode cX6_clear 20 = .ok (.return_, 1) := by decide +kernel
theorem dX6_giveUp_0 : decode cX6_giveUp 0 = .ok (.aload_n 0, 1) := by decide +kernel
theorem dX6_giveUp_1 : decode cX6_giveUp 1 = .ok (.iconst 0, 1) := by decide +kernel
theorem dX6_giveUp_2 : decode cX6_giveUp 2 = .ok (.invokevirtual 50, 3) := by decide +kernel
theorem dX6_giveUp_5 : decode cX6_giveUp 5 = .ok (.aload_n 0, 1) := by decide +kernel
theorem dX6_giveUp_6 : decode cX6_giveUp 6 = .ok (.iconst 0, 1) := by decide +kernel
theorem dX6_giveUp_7 : decode cX6_giveUp 7 = .ok (.putfield 40, 3) := by decide +kernel
theorem dX6_giveUp_10 : decode cX6_giveUp 10 = .ok (.return_, 1) := by decide +kernel
theorem dX6_hasPage_0 : decode cX6_hasPage 0 = .ok (.iload_n 1, 1) := by decide +kernel
theorem dX6_hasPage_1 : decode cX6_hasPage 1 = .ok (.ifCond .lt 22, 3) := by decide +kernel
theorem dX6_hasPage_4 : decode cX6_hasPage 4 = .ok (.iload_n 1, 1) := by decide +kernel
theorem dX6_hasPage_5 : decode cX6_hasPage 5 = .ok (.aload_n 0, 1) := by decide +kernel
theorem dX6_hasPage_6 : decode cX6_hasPage 6 = .ok (.getfield 44, 3) := by decide +kernel
theorem dX6_hasPage_9 : decode cX6_hasPage 9 = .ok (.if_icmp .ge 14, 3) := by decide +kernel
theorem dX6_hasPage_12 : decode cX6_hasPage 12 = .ok (.iload_n 1, 1) := by decide +kernel
theorem dX6_hasPage_13 : decode cX6_hasPage 13 = .ok (.sipush 904, 3) := by decide +kernel
theorem dX6_hasPage_16 : decode cX6_hasPage 16 = .ok (.if_icmp .ge 7, 3) := by decide +kernel
theorem dX6_hasPage_19 : decode cX6_hasPage 19 = .ok (.iconst 1, 1) := by decide +kernel
theorem dX6_hasPage_20 : decode cX6_hasPage 20 = .ok (.goto 4, 3) := by decide +kernel
theorem dX6_hasPage_23 : decode cX6_hasPage 23 = .ok (.iconst 0, 1) := by decide +kernel
theorem dX6_hasPage_24 : decode cX6_hasPage 24 = .ok (.ireturn, 1) := by decide +kernel
theorem dX6_openPage_0 : decode cX6_openPage 0 = .ok (.aload_n 0, 1) := by decide +kernel
theorem dX6_openPage_1 : decode cX6_openPage 1 = .ok (.getfield 44, 3) := by decide +kernel
theorem dX6_openPage_4 : decode cX6_openPage 4 = .ok (.sipush 904, 3) := by decide +kernel
theorem dX6_openPage_7 : decode cX6_openPage 7 = .ok (.if_icmp .ge 46, 3) := by decide +kernel
theorem dX6_openPage_10 : decode cX6_openPage 10 = .ok (.aload_n 0, 1) := by decide +kernel
theorem dX6_openPage_11 : decode cX6_openPage 11 = .ok (.getfield 21, 3) := by decide +kernel
theorem dX6_openPage_14 : decode cX6_openPage 14 = .ok (.aload_n 0, 1) := by decide +kernel
theorem dX6_openPage_15 : decode cX6_openPage 15 = .ok (.getfield 44, 3) := by decide +kernel
theorem dX6_openPage_18 : decode cX6_openPage 18 = .ok (.aload_n 0, 1) := by decide +kernel
theorem dX6_openPage_19 : decode cX6_openPage 19 = .ok (.getfield 47, 3) := by decide +kernel
theorem dX6_openPage_22 : decode cX6_openPage 22 = .ok (.iastore, 1) := by decide +kernel
theorem dX6_openPage_23 : decode cX6_openPage 23 = .ok (.aload_n 0, 1) := by decide +kernel
theorem dX6_openPage_24 : decode cX6_openPage 24 = .ok (.getfield 24, 3) := by decide +kernel
theorem dX6_openPage_27 : decode cX6_openPage 27 = .ok (.aload_n 0, 1) := by decide +kernel
theorem dX6_openPage_28 : decode cX6_openPage 28 = .ok (.getfield 44, 3) := by decide +kernel
theorem dX6_openPage_31 : decode cX6_openPage 31 = .ok (.iconst 0, 1) := by decide +kernel
theorem dX6_openPage_32 : decode cX6_openPage 32 = .ok (.iastore, 1) := by decide +kernel
theorem dX6_openPage_33 : decode cX6_openPage 33 = .ok (.aload_n 0, 1) := by decide +kernel
theorem dX6_openPage_34 : decode cX6_openPage 34 = .ok (.getfield 27, 3) := by decide +kernel
theorem dX6_openPage_37 : decode cX6_openPage 37 = .ok (.aload_n 0, 1) := by decide +kernel
theorem dX6_openPage_38 : decode cX6_openPage 38 = .ok (.getfield 44, 3) := by decide +kernel
theorem dX6_openPage_41 : decode cX6_openPage 41 = .ok (.iconst 0, 1) := by decide +kernel
theorem dX6_openPage_42 : decode cX6_openPage 42 = .ok (.iastore, 1) := by decide +kernel
theorem dX6_openPage_43 : decode cX6_openPage 43 = .ok (.aload_n 0, 1) := by decide +kernel
theorem dX6_openPage_44 : decode cX6_openPage 44 = .ok (.dup, 1) := by decide +kernel
theorem dX6_openPage_45 : decode cX6_openPage 45 = .ok (.getfield 44, 3) := by decide +kernel
theorem dX6_openPage_48 : decode cX6_openPage 48 = .ok (.iconst 1, 1) := by decide +kernel
theorem dX6_openPage_49 : decode cX6_openPage 49 = .ok (.iadd, 1) := by decide +kernel
theorem dX6_openPage_50 : decode cX6_openPage 50 = .ok (.putfield 44, 3) := by decide +kernel
theorem dX6_openPage_53 : decode cX6_openPage 53 = .ok (.return_, 1) := by decide +kernel
theorem dX6_put_0 : decode cX6_put 0 = .ok (.aload_n 0, 1) := by decide +kernel
theorem dX6_put_1 : decode cX6_put 1 = .ok (.getfield 44, 3) := by decide +kernel
theorem dX6_put_4 : decode cX6_put 4 = .ok (.iconst 1, 1) := by decide +kernel
theorem dX6_put_5 : decode cX6_put 5 = .ok (.isub, 1) := by decide +kernel
theorem dX6_put_6 : decode cX6_put 6 = .ok (.istore 5, 2) := by decide +kernel
theorem dX6_put_8 : decode cX6_put 8 = .ok (.aload_n 0, 1) := by decide +kernel
theorem dX6_put_9 : decode cX6_put 9 = .ok (.getfield 47, 3) := by decide +kernel
theorem dX6_put_12 : decode cX6_put 12 = .ok (.sipush 904, 3) := by decide +kernel
theorem dX6_put_15 : decode cX6_put 15 = .ok (.if_icmp .ge 16, 3) := by decide +kernel
theorem dX6_put_18 : decode cX6_put 18 = .ok (.iload 5, 2) := by decide +kernel
theorem dX6_put_20 : decode cX6_put 20 = .ok (.ifCond .lt 11, 3) := by decide +kernel
theorem dX6_put_23 : decode cX6_put 23 = .ok (.iload 5, 2) := by decide +kernel
theorem dX6_put_25 : decode cX6_put 25 = .ok (.sipush 904, 3) := by decide +kernel
theorem dX6_put_28 : decode cX6_put 28 = .ok (.if_icmp .lt 4, 3) := by decide +kernel
theorem dX6_put_31 : decode cX6_put 31 = .ok (.return_, 1) := by decide +kernel
theorem dX6_put_32 : decode cX6_put 32 = .ok (.aload_n 0, 1) := by decide +kernel
theorem dX6_put_33 : decode cX6_put 33 = .ok (.getfield 9, 3) := by decide +kernel
theorem dX6_put_36 : decode cX6_put 36 = .ok (.aload_n 0, 1) := by decide +kernel
theorem dX6_put_37 : decode cX6_put 37 = .ok (.getfield 47, 3) := by decide +kernel
theorem dX6_put_40 : decode cX6_put 40 = .ok (.iload_n 1, 1) := by decide +kernel
theorem dX6_put_41 : decode cX6_put 41 = .ok (.iastore, 1) := by decide +kernel
theorem dX6_put_42 : decode cX6_put 42 = .ok (.aload_n 0, 1) := by decide +kernel
theorem dX6_put_43 : decode cX6_put 43 = .ok (.getfield 15, 3) := by decide +kernel
theorem dX6_put_46 : decode cX6_put 46 = .ok (.aload_n 0, 1) := by decide +kernel
theorem dX6_put_47 : decode cX6_put 47 = .ok (.getfield 47, 3) := by decide +kernel
theorem dX6_put_50 : decode cX6_put 50 = .ok (.iload_n 2, 1) := by decide +kernel
theorem dX6_put_51 : decode cX6_put 51 = .ok (.iastore, 1) := by decide +kernel
theorem dX6_put_52 : decode cX6_put 52 = .ok (.aload_n 0, 1) := by decide +kernel
theorem dX6_put_53 : decode cX6_put 53 = .ok (.getfield 18, 3) := by decide +kernel
theorem dX6_put_56 : decode cX6_put 56 = .ok (.aload_n 0, 1) := by decide +kernel
theorem dX6_put_57 : decode cX6_put 57 = .ok (.getfield 47, 3) := by decide +kernel
theorem dX6_put_60 : decode cX6_put 60 = .ok (.iload_n 3, 1) := by decide +kernel
theorem dX6_put_61 : decode cX6_put 61 = .ok (.iastore, 1) := by decide +kernel
theorem dX6_put_62 : decode cX6_put 62 = .ok (.aload_n 0, 1) := by decide +kernel
theorem dX6_put_63 : decode cX6_put 63 = .ok (.dup, 1) := by decide +kernel
theorem dX6_put_64 : decode cX6_put 64 = .ok (.getfield 47, 3) := by decide +kernel
theorem dX6_put_67 : decode cX6_put 67 = .ok (.iconst 1, 1) := by decide +kernel
theorem dX6_put_68 : decode cX6_put 68 = .ok (.iadd, 1) := by decide +kernel
theorem dX6_put_69 : decode cX6_put 69 = .ok (.putfield 47, 3) := by decide +kernel
theorem dX6_put_72 : decode cX6_put 72 = .ok (.aload_n 0, 1) := by decide +kernel
theorem dX6_put_73 : decode cX6_put 73 = .ok (.getfield 24, 3) := by decide +kernel
theorem dX6_put_76 : decode cX6_put 76 = .ok (.iload 5, 2) := by decide +kernel
theorem dX6_put_78 : decode cX6_put 78 = .ok (.dup2, 1) := by decide +kernel
theorem dX6_put_79 : decode cX6_put 79 = .ok (.iaload, 1) := by decide +kernel
theorem dX6_put_80 : decode cX6_put 80 = .ok (.iload_n 3, 1) := by decide +kernel
theorem dX6_put_81 : decode cX6_put 81 = .ok (.iload 4, 2) := by decide +kernel
theorem dX6_put_83 : decode cX6_put 83 = .ok (.iadd, 1) := by decide +kernel
theorem dX6_put_84 : decode cX6_put 84 = .ok (.iadd, 1) := by decide +kernel
theorem dX6_put_85 : decode cX6_put 85 = .ok (.iastore, 1) := by decide +kernel
theorem dX6_put_86 : decode cX6_put 86 = .ok (.aload_n 0, 1) := by decide +kernel
theorem dX6_put_87 : decode cX6_put 87 = .ok (.getfield 27, 3) := by decide +kernel
theorem dX6_put_90 : decode cX6_put 90 = .ok (.iload 5, 2) := by decide +kernel
theorem dX6_put_92 : decode cX6_put 92 = .ok (.dup2, 1) := by decide +kernel
theorem dX6_put_93 : decode cX6_put 93 = .ok (.iaload, 1) := by decide +kernel
theorem dX6_put_94 : decode cX6_put 94 = .ok (.iload_n 1, 1) := by decide +kernel
theorem dX6_put_95 : decode cX6_put 95 = .ok (.bipush 65, 2) := by decide +kernel
theorem dX6_put_97 : decode cX6_put 97 = .ok (.if_icmp .ne 7, 3) := by decide +kernel
theorem dX6_put_100 : decode cX6_put 100 = .ok (.iload_n 3, 1) := by decide +kernel
theorem dX6_put_101 : decode cX6_put 101 = .ok (.goto 5, 3) := by decide +kernel
theorem dX6_put_104 : decode cX6_put 104 = .ok (.iload 4, 2) := by decide +kernel
theorem dX6_put_106 : decode cX6_put 106 = .ok (.iadd, 1) := by decide +kernel
theorem dX6_put_107 : decode cX6_put 107 = .ok (.iastore, 1) := by decide +kernel
theorem dX6_put_108 : decode cX6_put 108 = .ok (.iload_n 1, 1) := by decide +kernel
theorem dX6_put_109 : decode cX6_put 109 = .ok (.ifCond .lt 21, 3) := by decide +kernel
theorem dX6_put_112 : decode cX6_put 112 = .ok (.iload_n 1, 1) := by decide +kernel
theorem dX6_put_113 : decode cX6_put 113 = .ok (.bipush 29, 2) := by decide +kernel
theorem dX6_put_115 : decode cX6_put 115 = .ok (.if_icmp .ge 15, 3) := by decide +kernel
theorem dX6_put_118 : decode cX6_put 118 = .ok (.iload_n 2, 1) := by decide +kernel
theorem dX6_put_119 : decode cX6_put 119 = .ok (.ifCond .ne 11, 3) := by decide +kernel
theorem dX6_put_122 : decode cX6_put 122 = .ok (.aload_n 0, 1) := by decide +kernel
theorem dX6_put_123 : decode cX6_put 123 = .ok (.getfield 33, 3) := by decide +kernel
theorem dX6_put_126 : decode cX6_put 126 = .ok (.iload_n 1, 1) := by decide +kernel
theorem dX6_put_127 : decode cX6_put 127 = .ok (.iload 5, 2) := by decide +kernel
theorem dX6_put_129 : decode cX6_put 129 = .ok (.iastore, 1) := by decide +kernel
theorem dX6_put_130 : decode cX6_put 130 = .ok (.return_, 1) := by decide +kernel
theorem dX6_pieceBeginOf_0 : decode cX6_pieceBeginOf 0 = .ok (.aload_n 0, 1) := by decide +kernel
theorem dX6_pieceBeginOf_1 : decode cX6_pieceBeginOf 1 = .ok (.iload_n 1, 1) := by decide +kernel
theorem dX6_pieceBeginOf_2 : decode cX6_pieceBeginOf 2 = .ok (.invokevirtual 54, 3) := by decide +kernel
theorem dX6_pieceBeginOf_5 : decode cX6_pieceBeginOf 5 = .ok (.ifCond .eq 12, 3) := by decide +kernel
theorem dX6_pieceBeginOf_8 : decode cX6_pieceBeginOf 8 = .ok (.aload_n 0, 1) := by decide +kernel
theorem dX6_pieceBeginOf_9 : decode cX6_pieceBeginOf 9 = .ok (.getfield 21, 3) := by decide +kernel
theorem dX6_pieceBeginOf_12 : decode cX6_pieceBeginOf 12 = .ok (.iload_n 1, 1) := by decide +kernel
theorem dX6_pieceBeginOf_13 : decode cX6_pieceBeginOf 13 = .ok (.iaload, 1) := by decide +kernel
theorem dX6_pieceBeginOf_14 : decode cX6_pieceBeginOf 14 = .ok (.goto 7, 3) := by decide +kernel
theorem dX6_pieceBeginOf_17 : decode cX6_pieceBeginOf 17 = .ok (.aload_n 0, 1) := by decide +kernel
theorem dX6_pieceBeginOf_18 : decode cX6_pieceBeginOf 18 = .ok (.getfield 47, 3) := by decide +kernel
theorem dX6_pieceBeginOf_21 : decode cX6_pieceBeginOf 21 = .ok (.ireturn, 1) := by decide +kernel
theorem dX6_pieceEndOf_0 : decode cX6_pieceEndOf 0 = .ok (.iload_n 1, 1) := by decide +kernel
theorem dX6_pieceEndOf_1 : decode cX6_pieceEndOf 1 = .ok (.aload_n 0, 1) := by decide +kernel
theorem dX6_pieceEndOf_2 : decode cX6_pieceEndOf 2 = .ok (.getfield 44, 3) := by decide +kernel
theorem dX6_pieceEndOf_5 : decode cX6_pieceEndOf 5 = .ok (.iconst 1, 1) := by decide +kernel
theorem dX6_pieceEndOf_6 : decode cX6_pieceEndOf 6 = .ok (.isub, 1) := by decide +kernel
theorem dX6_pieceEndOf_7 : decode cX6_pieceEndOf 7 = .ok (.if_icmp .ge 13, 3) := by decide +kernel
theorem dX6_pieceEndOf_10 : decode cX6_pieceEndOf 10 = .ok (.aload_n 0, 1) := by decide +kernel
theorem dX6_pieceEndOf_11 : decode cX6_pieceEndOf 11 = .ok (.iload_n 1, 1) := by decide +kernel
theorem dX6_pieceEndOf_12 : decode cX6_pieceEndOf 12 = .ok (.iconst 1, 1) := by decide +kernel
theorem dX6_pieceEndOf_13 : decode cX6_pieceEndOf 13 = .ok (.iadd, 1) := by decide +kernel
theorem dX6_pieceEndOf_14 : decode cX6_pieceEndOf 14 = .ok (.invokevirtual 58, 3) := by decide +kernel
theorem dX6_pieceEndOf_17 : decode cX6_pieceEndOf 17 = .ok (.goto 7, 3) := by decide +kernel
theorem dX6_pieceEndOf_20 : decode cX6_pieceEndOf 20 = .ok (.aload_n 0, 1) := by decide +kernel
theorem dX6_pieceEndOf_21 : decode cX6_pieceEndOf 21 = .ok (.getfield 47, 3) := by decide +kernel
theorem dX6_pieceEndOf_24 : decode cX6_pieceEndOf 24 = .ok (.ireturn, 1) := by decide +kernel
section
variable {p : Program} {l : Launch} {e : Env} {s : State} {m : MethodId} {args : Array Value} {below : List Frame} {meth : Method} {c : Code} {G : Gx} {e0 : Nat} {α : Ax} {κ : Nat → Int} {B : Nat}
def wp_X3_hasFigureAt_55 (u1 : Int) (p2 : Int) (Qm : Int → Mem → Prop) (M : Mem) : Prop := Qm 0 M
def wp_X3_hasFigureAt (u1 : Int) (p2 : Int) (M : Mem) (Qm : Int → Mem → Prop) : Prop := wp_X3_isShown p2 M fun (x2 : Int) (M1 : Mem) => (¬ x2 = 0 → (0 ≤ p2 ∧ p2 < 6) ∧ True) ∧ (((if x2 = 0 then ((-1) : Int) else (M1 37 u1 p2)) < 0 → wp_X3_hasFigureAt_55 u1 p2 Qm M1) ∧ (0 ≤ (if x2 = 0 then ((-1) : Int) else (M1 37 u1 p2)) → (((M1 14 0 (-1)) ≤ (if x2 = 0 then ((-1) : Int) else (M1 37 u1 p2)) → wp_X3_hasFigureAt_55 u1 p2 Qm M1) ∧ ((if x2 = 0 then ((-1) : Int) else (M1 37 u1 p2)) < (M1 14 0 (-1)) → (0 ≤ (if x2 = 0 then ((-1) : Int) else (M1 37 u1 p2)) ∧ (if x2 = 0 then ((-1) : Int) else (M1 37 u1 p2)) < M1 14 0 (-1)) ∧ (bit (if (M1 1 (M1 14 0 (if x2 = 0 then ((-1) : Int) else (M1 37 u1 p2))) 8) = 0 then (0 : Int) else 1)) ∧ Qm (if (M1 1 (M1 14 0 (if x2 = 0 then ((-1) : Int) else (M1 37 u1 p2))) 8) = 0 then (0 : Int) else 1) M1))))
set_option maxHeartbeats 4000000 in
set_option maxRecDepth 100000 in
theorem t_X3_hasFigureAt_55 {u1 : Int} {p2 : Int} (X : CX p m c cX3_hasFigureAt 4 s args RX3 G B κ meth (some .boolean)) (hu1 : okk κ 6 u1) (hp2 : inR p2) {Qm : Int → Mem → Prop} : ∀ M : Mem, wp_X3_hasFigureAt_55 u1 p2 Qm M → ∀ (H : Heap) (locs : List Loc), Rp G e0 α κ B M H → va_S (fun q => B ≤ q) s.heap H locs → ∀ (ls : Array Slot), lv_has ls 4 [] → WI p l e 3 s m args below meth c G e0 α κ B Qm H locs 55 ls [] := by
  intro M hw H locs hR hS ls hl
  have hw : Qm 0 M := hw
  refine sa_const X.1 dX3_hasFigureAt_55 ?_
  exact sa_zret X.1 X.2.2.2.1 X.2.2.2.2 hR hS (Or.inl rfl) hw dX3_hasFigureAt_56
set_option maxHeartbeats 4000000 in
set_option maxRecDepth 100000 in
theorem t_X3_hasFigureAt {u1 : Int} {p2 : Int} (X : CX p m c cX3_hasFigureAt 4 s args RX3 G B κ meth (some .boolean)) (hu1 : okk κ 6 u1) (hp2 : inR p2) {M : Mem} {Qm : Int → Mem → Prop} (hw : wp_X3_hasFigureAt u1 p2 M Qm) (H : Heap) (locs : List Loc) (hR : Rp G e0 α κ B M H) (hS : va_S (fun q => B ≤ q) s.heap H locs) (ls : Array Slot) (hl : lv_has ls 4 [(0, .ref (α 4 0)), (1, .ref (α 6 u1)), (2, .int (Int32.ofInt p2))]) : WI p l e 3 s m args below meth c G e0 α κ B Qm H locs 0 ls [] := by
  have hw : wp_X3_isShown p2 M fun (x2 : Int) (M1 : Mem) => (¬ x2 = 0 → (0 ≤ p2 ∧ p2 < 6) ∧ True) ∧ (((if x2 = 0 then ((-1) : Int) else (M1 37 u1 p2)) < 0 → wp_X3_hasFigureAt_55 u1 p2 Qm M1) ∧ (0 ≤ (if x2 = 0 then ((-1) : Int) else (M1 37 u1 p2)) → (((M1 14 0 (-1)) ≤ (if x2 = 0 then ((-1) : Int) else (M1 37 u1 p2)) → wp_X3_hasFigureAt_55 u1 p2 Qm M1) ∧ ((if x2 = 0 then ((-1) : Int) else (M1 37 u1 p2)) < (M1 14 0 (-1)) → (0 ≤ (if x2 = 0 then ((-1) : Int) else (M1 37 u1 p2)) ∧ (if x2 = 0 then ((-1) : Int) else (M1 37 u1 p2)) < M1 14 0 (-1)) ∧ (bit (if (M1 1 (M1 14 0 (if x2 = 0 then ((-1) : Int) else (M1 37 u1 p2))) 8) = 0 then (0 : Int) else 1)) ∧ Qm (if (M1 1 (M1 14 0 (if x2 = 0 then ((-1) : Int) else (M1 37 u1 p2))) 8) = 0 then (0 : Int) else 1) M1)))) := hw
  refine lv_aload_n X.1.1 X.1.2.1 dX3_hasFigureAt_0 rfl (lv_at hl 0 rfl) ?_
  refine lv_iload_n X.1.1 X.1.2.1 dX3_hasFigureAt_1 rfl (lv_at hl 2 rfl) ?_
  refine cs_X3_isShown X hp2 (kc := 3) rmL_ok rm_c (by decide) hR hS kw_437 hl.1 dX3_hasFigureAt_2 (Nat.le_of_ble_eq_true rfl) hw (fun x2 M1 H locs hw r3 hR hS => ?_)
  have s5 := hw.1
  have hw := hw.2
  have r6 := inR_ite (c := x2 = 0) (inR_c (a := -1) rfl) (hR.r 37 u1 p2)
  refine cut_j (A := ∀ v7 : Int, v7 = (if x2 = 0 then ((-1) : Int) else (M1 37 u1 p2)) → WI p l e 3 s m args below meth c G e0 α κ B Qm H locs 18 ls [.int (Int32.ofInt v7)]) (fun J8 => ?_) ?_
  · refine sa_if_eq (tgt := 17) X.1 r3 dX3_hasFigureAt_5 (by decide) (fun hc => ?_) (fun hc => ?_)
    · skip
      refine sa_const X.1 dX3_hasFigureAt_17 ?_
      exact J8 ((-1)) (if_pos (c := x2 = 0) hc).symm
    · have hw := s5 hc
      refine lv_aload_n X.1.1 X.1.2.1 dX3_hasFigureAt_8 rfl (lv_at hl 1 rfl) ?_
      refine gt_6_5 X hR hu1 kw_903 dX3_hasFigureAt_9 ?_
      refine lv_iload_n X.1.1 X.1.2.1 dX3_hasFigureAt_12 rfl (lv_at hl 2 rfl) ?_
      have c4 := hw.1
      have hw := hw.2
      refine ra_37 X hR (ok4 X.2.2.1 rfl hu1) c4 dX3_hasFigureAt_13 ?_
      refine lv_goto (tgt := 18) X.1.1 X.1.2.1 dX3_hasFigureAt_14 (by decide) ?_
      exact J8 ((M1 37 u1 p2)) (if_neg (c := x2 = 0) hc).symm
  intro v7 hv7
  subst hv7
  refine lv_istore_n (lv' := [(3, .int (Int32.ofInt (if x2 = 0 then ((-1) : Int) else (M1 37 u1 p2)))), (0, .ref (α 4 0)), (1, .ref (α 6 u1)), (2, .int (Int32.ofInt p2))]) X.1.1 X.1.2.1 dX3_hasFigureAt_18 rfl hl (by decide) rfl (fun ls hl => ?_)
  refine lv_iload_n X.1.1 X.1.2.1 dX3_hasFigureAt_19 rfl (lv_at hl 0 rfl) ?_
  refine sa_if_lt (tgt := 55) X.1 r6 dX3_hasFigureAt_20 (by decide) (fun hc => ?_) (fun hc => ?_)
  · have hw := hw.1 hc
    exact t_X3_hasFigureAt_55 X hu1 hp2 _ hw _ _ hR hS _ (lv_sub hl [] rfl)
  · have hw := hw.2 hc
    refine lv_iload_n X.1.1 X.1.2.1 dX3_hasFigureAt_23 rfl (lv_at hl 0 rfl) ?_
    refine lv_aload_n X.1.1 X.1.2.1 dX3_hasFigureAt_24 rfl (lv_at hl 1 rfl) ?_
    refine gt_4_2 X hR (okf X.2.2.1 rfl) kw_118 dX3_hasFigureAt_25 ?_
    refine ls_size (by decide) (by decide) X (kc := 3) rmL_ok rm_c (by decide) hR hS kw_441 hl.1 dX3_hasFigureAt_28 (Nat.le_of_ble_eq_true rfl) (fun H locs hR hS => ?_)
    have r9 := hR.r 14 0 (-1)
    refine sa_icmp_ge (tgt := 55) X.1 r6 r9 dX3_hasFigureAt_31 (by decide) (fun hc => ?_) (fun hc => ?_)
    · have hw := hw.1 hc
      exact t_X3_hasFigureAt_55 X hu1 hp2 _ hw _ _ hR hS _ (lv_sub hl [] rfl)
    · have hw := hw.2 hc
      refine lv_aload_n X.1.1 X.1.2.1 dX3_hasFigureAt_34 rfl (lv_at hl 1 rfl) ?_
      refine gt_4_2 X hR (okf X.2.2.1 rfl) kw_118 dX3_hasFigureAt_35 ?_
      refine lv_iload_n X.1.1 X.1.2.1 dX3_hasFigureAt_38 rfl (lv_at hl 0 rfl) ?_
      have c10 := hw.1
      have hw := hw.2
      refine ls_get (ci := 1) (by decide) (by decide) rfl X c10 (kc := 3) rmL_ok rm_c (by decide) hR hS kw_442 hl.1 dX3_hasFigureAt_39 (Nat.le_of_ble_eq_true rfl) (fun H locs o11 hR hS => ?_)
      refine ck_1 X hR o11 kw_653 dX3_hasFigureAt_42 ?_
      refine gt_1_8 X hR o11 kw_1007 dX3_hasFigureAt_45 ?_
      have r12 := hR.r 1 (M1 14 0 (if x2 = 0 then ((-1) : Int) else (M1 37 u1 p2))) 8
      have r13 := inR_ite (c := (M1 1 (M1 14 0 (if x2 = 0 then ((-1) : Int) else (M1 37 u1 p2))) 8) = 0) (inR_c (a := 0) rfl) (inR_c (a := 1) rfl)
      refine cut_j (A := ∀ v14 : Int, v14 = (if (M1 1 (M1 14 0 (if x2 = 0 then ((-1) : Int) else (M1 37 u1 p2))) 8) = 0 then (0 : Int) else 1) → WI p l e 3 s m args below meth c G e0 α κ B Qm H locs 56 ls [.int (Int32.ofInt v14)]) (fun J15 => ?_) ?_
      · refine sa_if_eq (tgt := 55) X.1 r12 dX3_hasFigureAt_48 (by decide) (fun hc => ?_) (fun hc => ?_)
        · skip
          refine sa_const X.1 dX3_hasFigureAt_55 ?_
          exact J15 (0) (if_pos (c := (M1 1 (M1 14 0 (if x2 = 0 then ((-1) : Int) else (M1 37 u1 p2))) 8) = 0) hc).symm
        · skip
          refine sa_const X.1 dX3_hasFigureAt_51 ?_
          refine lv_goto (tgt := 56) X.1.1 X.1.2.1 dX3_hasFigureAt_52 (by decide) ?_
          exact J15 (1) (if_neg (c := (M1 1 (M1 14 0 (if x2 = 0 then ((-1) : Int) else (M1 37 u1 p2))) 8) = 0) hc).symm
      intro v14 hv14
      subst hv14
      have c16 := hw.1
      have hw := hw.2
      exact sa_zret X.1 X.2.2.2.1 X.2.2.2.2 hR hS c16 hw dX3_hasFigureAt_56
theorem m_X3_hasFigureAt {l : Launch} {G : Gx} {e0 : Nat} {α : Ax} {κ : Nat → Int} {B : Nat} {u1 : Int} {p2 : Int} (hκ : kOK κ) (hu1 : okk κ 6 u1) (hp2 : inR p2) {M : Mem} {Qm : Int → Mem → Prop} (hw : wp_X3_hasFigureAt u1 p2 M Qm) : CI l yX3_hasFigureAt (Cond.code yX3_hasFigureAt cX3_hasFigureAt 4 (some .boolean)) 3 G e0 α κ B [.ref (α 4 0), .ref (α 6 u1), .int (Int32.ofInt p2)] M Qm :=
  CI.mk hκ (by decide +kernel) rfl (Nat.le_of_ble_eq_true rfl) (lv := [(0, .ref (α 4 0)), (1, .ref (α 6 u1)), (2, .int (Int32.ofInt p2))]) rfl (fun p e s m args below meth c ls X hR hS hl => t_X3_hasFigureAt X hu1 hp2 hw _ _ hR hS ls hl)
theorem cs_X3_hasFigureAt {cc : ByteArray} {nL : Nat} {own : String} {ret : Option FieldType} {idx pc : Nat} {u1 : Int} {p2 : Int} (X : CX p m c cc nL s args own G B κ meth ret) (hu1 : okk κ 6 u1) (hp2 : inR p2) {kc : Nat} {R : Room} {cells slots : Nat} (hRr : RmOK R kc) (hcel : cells ≤ R.cells ∧ slots ≤ R.slots) (hk : 3 + 1 ≤ kc) {M : Mem} {H : Heap} {locs : List Loc} (hR : Rp G e0 α κ B M H) (hS : va_S (fun q => B ≤ q) s.heap H locs) (k1 : Cond.methodLink own idx yX3_hasFigureAt ∈ gw) {ls : Array Slot} (hml : ls.size = nL) {rest : List Value} (hd : decode cc pc = .ok (.invokevirtual idx, 3)) (hrest : (rest.map fun v => v.category).sum ≤ 8) {Q : State → Prop} {Qm : Int → Mem → Prop} (hw : wp_X3_hasFigureAt u1 p2 M Qm) (kk : ∀ (r : Int) (M1 : Mem) (H1 : Heap) (locs1 : List Loc), Qm r M1 → inR r → Rp G e0 α κ B M1 H1 → va_S (fun q => B ≤ q) s.heap H1 locs1 → W p l e R s m args below meth c H1 locs1 cells slots Q (F0 m (pc + 3) ls (.int (Int32.ofInt r) :: rest))) : W p l e R s m args below meth c H locs cells slots Q (F0 m pc ls (.int (Int32.ofInt p2) :: .ref (α 6 u1) :: .ref (α 4 0) :: rest)) :=
  sa_callVI 3 (n := 2) (As := [.ref (α 6 u1), .int (Int32.ofInt p2)]) (rest := rest) X.1 X.2.1 hR hS (m_X3_hasFigureAt X.2.2.1 hu1 hp2 hw) k1 kw_1150 kw_1151 kw_39 kw_1152 ⟨rfl, by decide +kernel, by decide +kernel, by decide +kernel⟩ (rm_ok hRr hk (by decide)) (rc_4 X hR (okf X.2.2.1 rfl)) rfl rfl hrest hml hd hcel kk
def wp_X3_figureAt_81 (u1 : Int) (p2 : Int) (Qm : Int → Mem → Prop) (z0 : Int) (M : Mem) : Prop := Qm z0 M
def wp_X3_figureAt_55 (u1 : Int) (p2 : Int) (Qm : Int → Mem → Prop) (y3 : Int) (M : Mem) : Prop := wp_X3_figureAt_81 u1 p2 Qm 0 M
def wp_X3_figureAt (u1 : Int) (p2 : Int) (M : Mem) (Qm : Int → Mem → Prop) : Prop := wp_X3_isShown p2 M fun (x2 : Int) (M1 : Mem) => (¬ x2 = 0 → (0 ≤ p2 ∧ p2 < 6) ∧ True) ∧ (((if x2 = 0 then ((-1) : Int) else (M1 37 u1 p2)) < 0 → wp_X3_figureAt_55 u1 p2 Qm (if x2 = 0 then ((-1) : Int) else (M1 37 u1 p2)) M1) ∧ (0 ≤ (if x2 = 0 then ((-1) : Int) else (M1 37 u1 p2)) → (((M1 14 0 (-1)) ≤ (if x2 = 0 then ((-1) : Int) else (M1 37 u1 p2)) → wp_X3_figureAt_55 u1 p2 Qm (if x2 = 0 then ((-1) : Int) else (M1 37 u1 p2)) M1) ∧ ((if x2 = 0 then ((-1) : Int) else (M1 37 u1 p2)) < (M1 14 0 (-1)) → (0 ≤ (if x2 = 0 then ((-1) : Int) else (M1 37 u1 p2)) ∧ (if x2 = 0 then ((-1) : Int) else (M1 37 u1 p2)) < M1 14 0 (-1)) ∧ (((if (M1 1 (M1 14 0 (if x2 = 0 then ((-1) : Int) else (M1 37 u1 p2))) 8) = 0 then (0 : Int) else 1) = 0 → wp_X3_figureAt_81 u1 p2 Qm 0 M1) ∧ (¬ (if (M1 1 (M1 14 0 (if x2 = 0 then ((-1) : Int) else (M1 37 u1 p2))) 8) = 0 then (0 : Int) else 1) = 0 → (0 ≤ (if x2 = 0 then ((-1) : Int) else (M1 37 u1 p2)) ∧ (if x2 = 0 then ((-1) : Int) else (M1 37 u1 p2)) < M1 14 0 (-1)) ∧ wp_X3_figureAt_81 u1 p2 Qm (M1 1 (M1 14 0 (if x2 = 0 then ((-1) : Int) else (M1 37 u1 p2))) 9) M1))))))
set_option maxHeartbeats 4000000 in
set_option maxRecDepth 100000 in
theorem t_X3_figureAt_81 {u1 : Int} {p2 : Int} (X : CX p m c cX3_figureAt 5 s args RX3 G B κ meth (some .int)) (hu1 : okk κ 6 u1) (hp2 : inR p2) {Qm : Int → Mem → Prop} : ∀ z0 : Int, ∀ M : Mem, wp_X3_figureAt_81 u1 p2 Qm z0 M → inR z0 → ∀ (H : Heap) (locs : List Loc), Rp G e0 α κ B M H → va_S (fun q => B ≤ q) s.heap H locs → ∀ (ls : Array Slot), lv_has ls 5 [] → WI p l e 3 s m args below meth c G e0 α κ B Qm H locs 81 ls [.int (Int32.ofInt z0)] := by
  intro z0 M hw hz0 H locs hR hS ls hl
  have hw : Qm z0 M := hw
  exact sa_iret X.1 X.2.2.2.1 X.2.2.2.2 hR hS hz0 hw dX3_figureAt_81
set_option maxHeartbeats 4000000 in
set_option maxRecDepth 100000 in
theorem t_X3_figureAt_55 {u1 : Int} {p2 : Int} (X : CX p m c cX3_figureAt 5 s args RX3 G B κ meth (some .int)) (hu1 : okk κ 6 u1) (hp2 : inR p2) {Qm : Int → Mem → Prop} : ∀ y3 : Int, ∀ M : Mem, wp_X3_figureAt_55 u1 p2 Qm y3 M → inR y3 → ∀ (H : Heap) (locs : List Loc), Rp G e0 α κ B M H → va_S (fun q => B ≤ q) s.heap H locs → ∀ (ls : Array Slot), lv_has ls 5 [(0, .ref (α 4 0)), (3, .int (Int32.ofInt y3))] → WI p l e 3 s m args below meth c G e0 α κ B Qm H locs 55 ls [] := by
  intro y3 M hw hy3 H locs hR hS ls hl
  have hw : wp_X3_figureAt_81 u1 p2 Qm 0 M := hw
  refine sa_const X.1 dX3_figureAt_55 ?_
  refine lv_istore (lv' := [(4, .int (Int32.ofInt 0)), (0, .ref (α 4 0)), (3, .int (Int32.ofInt y3))]) X.1.1 X.1.2.1 dX3_figureAt_56 hl (by decide) rfl (fun ls hl => ?_)
  refine lv_iload X.1.1 X.1.2.1 dX3_figureAt_58 (lv_at hl 0 rfl) ?_
  refine sa_if_eq (tgt := 80) X.1 (inR_c (a := 0) rfl) dX3_figureAt_60 (by decide) (fun hc => ?_) (fun hc => absurd hc (by decide))
  refine sa_const X.1 dX3_figureAt_80 ?_
  exact t_X3_figureAt_81 X hu1 hp2 _ _ hw (inR_c (a := 0) rfl) _ _ hR hS _ (lv_sub hl [] rfl)
set_option maxHeartbeats 4000000 in
set_option maxRecDepth 100000 in
theorem t_X3_figureAt {u1 : Int} {p2 : Int} (X : CX p m c cX3_figureAt 5 s args RX3 G B κ meth (some .int)) (hu1 : okk κ 6 u1) (hp2 : inR p2) {M : Mem} {Qm : Int → Mem → Prop} (hw : wp_X3_figureAt u1 p2 M Qm) (H : Heap) (locs : List Loc) (hR : Rp G e0 α κ B M H) (hS : va_S (fun q => B ≤ q) s.heap H locs) (ls : Array Slot) (hl : lv_has ls 5 [(0, .ref (α 4 0)), (1, .ref (α 6 u1)), (2, .int (Int32.ofInt p2))]) : WI p l e 3 s m args below meth c G e0 α κ B Qm H locs 0 ls [] := by
  have hw : wp_X3_isShown p2 M fun (x2 : Int) (M1 : Mem) => (¬ x2 = 0 → (0 ≤ p2 ∧ p2 < 6) ∧ True) ∧ (((if x2 = 0 then ((-1) : Int) else (M1 37 u1 p2)) < 0 → wp_X3_figureAt_55 u1 p2 Qm (if x2 = 0 then ((-1) : Int) else (M1 37 u1 p2)) M1) ∧ (0 ≤ (if x2 = 0 then ((-1) : Int) else (M1 37 u1 p2)) → (((M1 14 0 (-1)) ≤ (if x2 = 0 then ((-1) : Int) else (M1 37 u1 p2)) → wp_X3_figureAt_55 u1 p2 Qm (if x2 = 0 then ((-1) : Int) else (M1 37 u1 p2)) M1) ∧ ((if x2 = 0 then ((-1) : Int) else (M1 37 u1 p2)) < (M1 14 0 (-1)) → (0 ≤ (if x2 = 0 then ((-1) : Int) else (M1 37 u1 p2)) ∧ (if x2 = 0 then ((-1) : Int) else (M1 37 u1 p2)) < M1 14 0 (-1)) ∧ (((if (M1 1 (M1 14 0 (if x2 = 0 then ((-1) : Int) else (M1 37 u1 p2))) 8) = 0 then (0 : Int) else 1) = 0 → wp_X3_figureAt_81 u1 p2 Qm 0 M1) ∧ (¬ (if (M1 1 (M1 14 0 (if x2 = 0 then ((-1) : Int) else (M1 37 u1 p2))) 8) = 0 then (0 : Int) else 1) = 0 → (0 ≤ (if x2 = 0 then ((-1) : Int) else (M1 37 u1 p2)) ∧ (if x2 = 0 then ((-1) : Int) else (M1 37 u1 p2)) < M1 14 0 (-1)) ∧ wp_X3_figureAt_81 u1 p2 Qm (M1 1 (M1 14 0 (if x2 = 0 then ((-1) : Int) else (M1 37 u1 p2))) 9) M1)))))) := hw
  refine lv_aload_n X.1.1 X.1.2.1 dX3_figureAt_0 rfl (lv_at hl 0 rfl) ?_
  refine lv_iload_n X.1.1 X.1.2.1 dX3_figureAt_1 rfl (lv_at hl 2 rfl) ?_
  refine cs_X3_isShown X hp2 (kc := 3) rmL_ok rm_c (by decide) hR hS kw_437 hl.1 dX3_figureAt_2 (Nat.le_of_ble_eq_true rfl) hw (fun x2 M1 H locs hw r3 hR hS => ?_)
  have s5 := hw.1
  have hw := hw.2
  have r6 := inR_ite (c := x2 = 0) (inR_c (a := -1) rfl) (hR.r 37 u1 p2)
  refine cut_j (A := ∀ v7 : Int, v7 = (if x2 = 0 then ((-1) : Int) else (M1 37 u1 p2)) → WI p l e 3 s m args below meth c G e0 α κ B Qm H locs 18 ls [.int (Int32.ofInt v7)]) (fun J8 => ?_) ?_
  · refine sa_if_eq (tgt := 17) X.1 r3 dX3_figureAt_5 (by decide) (fun hc => ?_) (fun hc => ?_)
    · skip
      refine sa_const X.1 dX3_figureAt_17 ?_
      exact J8 ((-1)) (if_pos (c := x2 = 0) hc).symm
    · have hw := s5 hc
      refine lv_aload_n X.1.1 X.1.2.1 dX3_figureAt_8 rfl (lv_at hl 1 rfl) ?_
      refine gt_6_5 X hR hu1 kw_903 dX3_figureAt_9 ?_
      refine lv_iload_n X.1.1 X.1.2.1 dX3_figureAt_12 rfl (lv_at hl 2 rfl) ?_
      have c4 := hw.1
      have hw := hw.2
      refine ra_37 X hR (ok4 X.2.2.1 rfl hu1) c4 dX3_figureAt_13 ?_
      refine lv_goto (tgt := 18) X.1.1 X.1.2.1 dX3_figureAt_14 (by decide) ?_
      exact J8 ((M1 37 u1 p2)) (if_neg (c := x2 = 0) hc).symm
  intro v7 hv7
  subst hv7
  refine lv_istore_n (lv' := [(3, .int (Int32.ofInt (if x2 = 0 then ((-1) : Int) else (M1 37 u1 p2)))), (0, .ref (α 4 0)), (1, .ref (α 6 u1)), (2, .int (Int32.ofInt p2))]) X.1.1 X.1.2.1 dX3_figureAt_18 rfl hl (by decide) rfl (fun ls hl => ?_)
  refine lv_iload_n X.1.1 X.1.2.1 dX3_figureAt_19 rfl (lv_at hl 0 rfl) ?_
  refine sa_if_lt (tgt := 55) X.1 r6 dX3_figureAt_20 (by decide) (fun hc => ?_) (fun hc => ?_)
  · have hw := hw.1 hc
    exact t_X3_figureAt_55 X hu1 hp2 _ _ hw r6 _ _ hR hS _ (lv_sub hl [1, 0] rfl)
  · have hw := hw.2 hc
    refine lv_iload_n X.1.1 X.1.2.1 dX3_figureAt_23 rfl (lv_at hl 0 rfl) ?_
    refine lv_aload_n X.1.1 X.1.2.1 dX3_figureAt_24 rfl (lv_at hl 1 rfl) ?_
    refine gt_4_2 X hR (okf X.2.2.1 rfl) kw_118 dX3_figureAt_25 ?_
    refine ls_size (by decide) (by decide) X (kc := 3) rmL_ok rm_c (by decide) hR hS kw_441 hl.1 dX3_figureAt_28 (Nat.le_of_ble_eq_true rfl) (fun H locs hR hS => ?_)
    have r9 := hR.r 14 0 (-1)
    refine sa_icmp_ge (tgt := 55) X.1 r6 r9 dX3_figureAt_31 (by decide) (fun hc => ?_) (fun hc => ?_)
    · have hw := hw.1 hc
      exact t_X3_figureAt_55 X hu1 hp2 _ _ hw r6 _ _ hR hS _ (lv_sub hl [1, 0] rfl)
    · have hw := hw.2 hc
      refine lv_aload_n X.1.1 X.1.2.1 dX3_figureAt_34 rfl (lv_at hl 1 rfl) ?_
      refine gt_4_2 X hR (okf X.2.2.1 rfl) kw_118 dX3_figureAt_35 ?_
      refine lv_iload_n X.1.1 X.1.2.1 dX3_figureAt_38 rfl (lv_at hl 0 rfl) ?_
      have c10 := hw.1
      have hw := hw.2
      refine ls_get (ci := 1) (by decide) (by decide) rfl X c10 (kc := 3) rmL_ok rm_c (by decide) hR hS kw_442 hl.1 dX3_figureAt_39 (Nat.le_of_ble_eq_true rfl) (fun H locs o11 hR hS => ?_)
      refine ck_1 X hR o11 kw_653 dX3_figureAt_42 ?_
      refine gt_1_8 X hR o11 kw_1007 dX3_figureAt_45 ?_
      have r12 := hR.r 1 (M1 14 0 (if x2 = 0 then ((-1) : Int) else (M1 37 u1 p2))) 8
      have r13 := inR_ite (c := (M1 1 (M1 14 0 (if x2 = 0 then ((-1) : Int) else (M1 37 u1 p2))) 8) = 0) (inR_c (a := 0) rfl) (inR_c (a := 1) rfl)
      refine cut_j (A := ∀ v14 : Int, v14 = (if (M1 1 (M1 14 0 (if x2 = 0 then ((-1) : Int) else (M1 37 u1 p2))) 8) = 0 then (0 : Int) else 1) → WI p l e 3 s m args below meth c G e0 α κ B Qm H locs 56 ls [.int (Int32.ofInt v14)]) (fun J15 => ?_) ?_
      · refine sa_if_eq (tgt := 55) X.1 r12 dX3_figureAt_48 (by decide) (fun hc => ?_) (fun hc => ?_)
        · skip
          refine sa_const X.1 dX3_figureAt_55 ?_
          exact J15 (0) (if_pos (c := (M1 1 (M1 14 0 (if x2 = 0 then ((-1) : Int) else (M1 37 u1 p2))) 8) = 0) hc).symm
        · skip
          refine sa_const X.1 dX3_figureAt_51 ?_
          refine lv_goto (tgt := 56) X.1.1 X.1.2.1 dX3_figureAt_52 (by decide) ?_
          exact J15 (1) (if_neg (c := (M1 1 (M1 14 0 (if x2 = 0 then ((-1) : Int) else (M1 37 u1 p2))) 8) = 0) hc).symm
      intro v14 hv14
      subst hv14
      refine lv_istore (lv' := [(4, .int (Int32.ofInt (if (M1 1 (M1 14 0 (if x2 = 0 then ((-1) : Int) else (M1 37 u1 p2))) 8) = 0 then (0 : Int) else 1))), (3, .int (Int32.ofInt (if x2 = 0 then ((-1) : Int) else (M1 37 u1 p2)))), (0, .ref (α 4 0)), (1, .ref (α 6 u1)), (2, .int (Int32.ofInt p2))]) X.1.1 X.1.2.1 dX3_figureAt_56 hl (by decide) rfl (fun ls hl => ?_)
      refine lv_iload X.1.1 X.1.2.1 dX3_figureAt_58 (lv_at hl 0 rfl) ?_
      refine sa_if_eq (tgt := 80) X.1 r13 dX3_figureAt_60 (by decide) (fun hc => ?_) (fun hc => ?_)
      · have hw := hw.1 hc
        refine sa_const X.1 dX3_figureAt_80 ?_
        exact t_X3_figureAt_81 X hu1 hp2 _ _ hw (inR_c (a := 0) rfl) _ _ hR hS _ (lv_sub hl [] rfl)
      · have hw := hw.2 hc
        refine lv_aload_n X.1.1 X.1.2.1 dX3_figureAt_63 rfl (lv_at hl 2 rfl) ?_
        refine gt_4_2 X hR (okf X.2.2.1 rfl) kw_118 dX3_figureAt_64 ?_
        refine lv_iload_n X.1.1 X.1.2.1 dX3_figureAt_67 rfl (lv_at hl 1 rfl) ?_
        have c16 := hw.1
        have hw := hw.2
        refine ls_get (ci := 1) (by decide) (by decide) rfl X c16 (kc := 3) rmL_ok rm_c (by decide) hR hS kw_442 hl.1 dX3_figureAt_68 (Nat.le_of_ble_eq_true rfl) (fun H locs o17 hR hS => ?_)
        refine ck_1 X hR o17 kw_653 dX3_figureAt_71 ?_
        refine gt_1_9 X hR o17 kw_1010 dX3_figureAt_74 ?_
        have r18 := hR.r 1 (M1 14 0 (if x2 = 0 then ((-1) : Int) else (M1 37 u1 p2))) 9
        refine lv_goto (tgt := 81) X.1.1 X.1.2.1 dX3_figureAt_77 (by decide) ?_
        exact t_X3_figureAt_81 X hu1 hp2 _ _ hw r18 _ _ hR hS _ (lv_sub hl [] rfl)
theorem m_X3_figureAt {l : Launch} {G : Gx} {e0 : Nat} {α : Ax} {κ : Nat → Int} {B : Nat} {u1 : Int} {p2 : Int} (hκ : kOK κ) (hu1 : okk κ 6 u1) (hp2 : inR p2) {M : Mem} {Qm : Int → Mem → Prop} (hw : wp_X3_figureAt u1 p2 M Qm) : CI l yX3_figureAt (Cond.code yX3_figureAt cX3_figureAt 5 (some .int)) 3 G e0 α κ B [.ref (α 4 0), .ref (α 6 u1), .int (Int32.ofInt p2)] M Qm :=
  CI.mk hκ (by decide +kernel) rfl (Nat.le_of_ble_eq_true rfl) (lv := [(0, .ref (α 4 0)), (1, .ref (α 6 u1)), (2, .int (Int32.ofInt p2))]) rfl (fun p e s m args below meth c ls X hR hS hl => t_X3_figureAt X hu1 hp2 hw _ _ hR hS ls hl)
theorem cs_X3_figureAt {cc : ByteArray} {nL : Nat} {own : String} {ret : Option FieldType} {idx pc : Nat} {u1 : Int} {p2 : Int} (X : CX p m c cc nL s args own G B κ meth ret) (hu1 : okk κ 6 u1) (hp2 : inR p2) {kc : Nat} {R : Room} {cells slots : Nat} (hRr : RmOK R kc) (hcel : cells ≤ R.cells ∧ slots ≤ R.slots) (hk : 3 + 1 ≤ kc) {M : Mem} {H : Heap} {locs : List Loc} (hR : Rp G e0 α κ B M H) (hS : va_S (fun q => B ≤ q) s.heap H locs) (k1 : Cond.methodLink own idx yX3_figureAt ∈ gw) {ls : Array Slot} (hml : ls.size = nL) {rest : List Value} (hd : decode cc pc = .ok (.invokevirtual idx, 3)) (hrest : (rest.map fun v => v.category).sum ≤ 8) {Q : State → Prop} {Qm : Int → Mem → Prop} (hw : wp_X3_figureAt u1 p2 M Qm) (kk : ∀ (r : Int) (M1 : Mem) (H1 : Heap) (locs1 : List Loc), Qm r M1 → inR r → Rp G e0 α κ B M1 H1 → va_S (fun q => B ≤ q) s.heap H1 locs1 → W p l e R s m args below meth c H1 locs1 cells slots Q (F0 m (pc + 3) ls (.int (Int32.ofInt r) :: rest))) : W p l e R s m args below meth c H locs cells slots Q (F0 m pc ls (.int (Int32.ofInt p2) :: .ref (α 6 u1) :: .ref (α 4 0) :: rest)) :=
  sa_callVI 3 (n := 2) (As := [.ref (α 6 u1), .int (Int32.ofInt p2)]) (rest := rest) X.1 X.2.1 hR hS (m_X3_figureAt X.2.2.1 hu1 hp2 hw) k1 kw_650 kw_651 kw_39 kw_652 ⟨rfl, by decide +kernel, by decide +kernel, by decide +kernel⟩ (rm_ok hRr hk (by decide)) (rc_4 X hR (okf X.2.2.1 rfl)) rfl rfl hrest hml hd hcel kk
def wp_X3_sumOfBody_56 (p1 : Int) (p2 : Int) (p3 : Int) (Qm : Int → Mem → Prop) (y4 : Int) (M : Mem) : Prop := Qm y4 M
def wp_X3_sumOfBody_10 (p1 : Int) (p2 : Int) (p3 : Int) (Qm : Int → Mem → Prop) : Nat → Int → Int → Mem → Prop
  | 0 => fun _ _ _ => False
  | n + 1 => fun y4 y5 M => ((p2 ≤ y5 → wp_X3_sumOfBody_56 p1 p2 p3 Qm y4 M) ∧ (y5 < p2 → (((M 16 0 (-1)) ≤ y5 → wp_X3_sumOfBody_56 p1 p2 p3 Qm y4 M) ∧ (y5 < (M 16 0 (-1)) → (0 ≤ y5 ∧ y5 < M 16 0 (-1)) ∧ wp_X3_figureAt (M 16 0 y5) p3 M fun (x5 : Int) (M4 : Mem) => (inR (y4 + x5)) ∧ (inR (y5 + 1)) ∧ wp_X3_sumOfBody_10 p1 p2 p3 Qm n (y4 + x5) (y5 + 1) M4))))
def wp_X3_sumOfBody (p1 : Int) (p2 : Int) (p3 : Int) (M : Mem) (Qm : Int → Mem → Prop) : Prop := (∃ n9 : Nat, wp_X3_sumOfBody_10 p1 p2 p3 Qm n9 0 (max 0 p1) M)
set_option maxHeartbeats 4000000 in
set_option maxRecDepth 100000 in
theorem t_X3_sumOfBody_56 {p1 : Int} {p2 : Int} {p3 : Int} (X : CX p m c cX3_sumOfBody 6 s args RX3 G B κ meth (some .int)) (hp1 : inR p1) (hp2 : inR p2) (hp3 : inR p3) {Qm : Int → Mem → Prop} : ∀ y4 : Int, ∀ M : Mem, wp_X3_sumOfBody_56 p1 p2 p3 Qm y4 M → inR y4 → ∀ (H : Heap) (locs : List Loc), Rp G e0 α κ B M H → va_S (fun q => B ≤ q) s.heap H locs → ∀ (ls : Array Slot), lv_has ls 6 [(4, .int (Int32.ofInt y4))] → WI p l e 4 s m args below meth c G e0 α κ B Qm H locs 56 ls [] := by
  intro y4 M hw hy4 H locs hR hS ls hl
  have hw : Qm y4 M := hw
  refine lv_iload X.1.1 X.1.2.1 dX3_sumOfBody_56 (lv_at hl 0 rfl) ?_
  exact sa_iret X.1 X.2.2.2.1 X.2.2.2.2 hR hS hy4 hw dX3_sumOfBody_58
set_option maxHeartbeats 4000000 in
set_option maxRecDepth 100000 in
theorem t_X3_sumOfBody_10 {p1 : Int} {p2 : Int} {p3 : Int} (X : CX p m c cX3_sumOfBody 6 s args RX3 G B κ meth (some .int)) (hp1 : inR p1) (hp2 : inR p2) (hp3 : inR p3) {Qm : Int → Mem → Prop} : ∀ n : Nat, ∀ y4 : Int, ∀ y5 : Int, ∀ M : Mem, wp_X3_sumOfBody_10 p1 p2 p3 Qm n y4 y5 M → inR y4 → inR y5 → ∀ (H : Heap) (locs : List Loc), Rp G e0 α κ B M H → va_S (fun q => B ≤ q) s.heap H locs → ∀ (ls : Array Slot), lv_has ls 6 [(0, .ref (α 4 0)), (2, .int (Int32.ofInt p2)), (3, .int (Int32.ofInt p3)), (4, .int (Int32.ofInt y4)), (5, .int (Int32.ofInt y5))] → WI p l e 4 s m args below meth c G e0 α κ B Qm H locs 10 ls [] := by
  intro n
  induction n with
  | zero =>
    intro y4 y5 M hw hy4 hy5 H locs hR hS ls hl
    exact hw.elim
  | succ n ih =>
    intro y4 y5 M hw hy4 hy5 H locs hR hS ls hl
    have hw : ((p2 ≤ y5 → wp_X3_sumOfBody_56 p1 p2 p3 Qm y4 M) ∧ (y5 < p2 → (((M 16 0 (-1)) ≤ y5 → wp_X3_sumOfBody_56 p1 p2 p3 Qm y4 M) ∧ (y5 < (M 16 0 (-1)) → (0 ≤ y5 ∧ y5 < M 16 0 (-1)) ∧ wp_X3_figureAt (M 16 0 y5) p3 M fun (x5 : Int) (M4 : Mem) => (inR (y4 + x5)) ∧ (inR (y5 + 1)) ∧ wp_X3_sumOfBody_10 p1 p2 p3 Qm n (y4 + x5) (y5 + 1) M4)))) := hw
    refine lv_iload X.1.1 X.1.2.1 dX3_sumOfBody_10 (lv_at hl 4 rfl) ?_
    refine lv_iload_n X.1.1 X.1.2.1 dX3_sumOfBody_12 rfl (lv_at hl 1 rfl) ?_
    refine sa_icmp_ge (tgt := 56) X.1 hy5 hp2 dX3_sumOfBody_13 (by decide) (fun hc => ?_) (fun hc => ?_)
    · have hw := hw.1 hc
      exact t_X3_sumOfBody_56 X hp1 hp2 hp3 _ _ hw hy4 _ _ hR hS _ (lv_sub hl [3] rfl)
    · have hw := hw.2 hc
      refine lv_iload X.1.1 X.1.2.1 dX3_sumOfBody_16 (lv_at hl 4 rfl) ?_
      refine lv_aload_n X.1.1 X.1.2.1 dX3_sumOfBody_18 rfl (lv_at hl 0 rfl) ?_
      refine gt_4_4 X hR (okf X.2.2.1 rfl) kw_124 dX3_sumOfBody_19 ?_
      refine ls_size (by decide) (by decide) X (kc := 4) rmL_ok rm_c (by decide) hR hS kw_441 hl.1 dX3_sumOfBody_22 (Nat.le_of_ble_eq_true rfl) (fun H locs hR hS => ?_)
      have r1 := hR.r 16 0 (-1)
      refine sa_icmp_ge (tgt := 56) X.1 hy5 r1 dX3_sumOfBody_25 (by decide) (fun hc => ?_) (fun hc => ?_)
      · have hw := hw.1 hc
        exact t_X3_sumOfBody_56 X hp1 hp2 hp3 _ _ hw hy4 _ _ hR hS _ (lv_sub hl [3] rfl)
      · have hw := hw.2 hc
        refine lv_iload X.1.1 X.1.2.1 dX3_sumOfBody_28 (lv_at hl 3 rfl) ?_
        refine lv_aload_n X.1.1 X.1.2.1 dX3_sumOfBody_30 rfl (lv_at hl 0 rfl) ?_
        refine lv_aload_n X.1.1 X.1.2.1 dX3_sumOfBody_31 rfl (lv_at hl 0 rfl) ?_
        refine gt_4_4 X hR (okf X.2.2.1 rfl) kw_124 dX3_sumOfBody_32 ?_
        refine lv_iload X.1.1 X.1.2.1 dX3_sumOfBody_35 (lv_at hl 4 rfl) ?_
        have c2 := hw.1
        have hw := hw.2
        refine ls_get (ci := 6) (by decide) (by decide) rfl X c2 (kc := 4) rmL_ok rm_c (by decide) hR hS kw_442 hl.1 dX3_sumOfBody_37 (Nat.le_of_ble_eq_true rfl) (fun H locs o3 hR hS => ?_)
        refine ck_6 X hR o3 kw_580 dX3_sumOfBody_40 ?_
        refine lv_iload_n X.1.1 X.1.2.1 dX3_sumOfBody_43 rfl (lv_at hl 2 rfl) ?_
        refine cs_X3_figureAt X o3 hp3 (kc := 4) rmL_ok rm_c (by decide) hR hS kw_1153 hl.1 dX3_sumOfBody_44 (Nat.le_of_ble_eq_true rfl) hw (fun x5 M4 H locs hw r6 hR hS => ?_)
        have c7 := hw.1
        have hw := hw.2
        refine sa_iadd X.1 dX3_sumOfBody_47 ?_
        refine lv_istore (lv' := [(4, .int (Int32.ofInt (y4 + x5))), (0, .ref (α 4 0)), (2, .int (Int32.ofInt p2)), (3, .int (Int32.ofInt p3)), (5, .int (Int32.ofInt y5))]) X.1.1 X.1.2.1 dX3_sumOfBody_48 hl (by decide) rfl (fun ls hl => ?_)
        have c8 := hw.1
        have hw := hw.2
        refine lv_iinc (v := Int32.ofInt (y5 + 1)) (lv' := [(5, .int (Int32.ofInt (y5 + 1))), (4, .int (Int32.ofInt (y4 + x5))), (0, .ref (α 4 0)), (2, .int (Int32.ofInt p2)), (3, .int (Int32.ofInt p3))]) X.1.1 X.1.2.1 dX3_sumOfBody_50 hl (k := 4) rfl (Int32.ofInt_add _ _).symm (by decide) rfl (fun ls hl => ?_)
        refine lv_goto (tgt := 10) X.1.1 X.1.2.1 dX3_sumOfBody_53 (by decide) ?_
        exact ih _ _ _ hw c7 c8 _ _ hR hS _ (lv_sub hl [2, 3, 4, 1, 0] rfl)
set_option maxHeartbeats 4000000 in
set_option maxRecDepth 100000 in
theorem t_X3_sumOfBody {p1 : Int} {p2 : Int} {p3 : Int} (X : CX p m c cX3_sumOfBody 6 s args RX3 G B κ meth (some .int)) (hp1 : inR p1) (hp2 : inR p2) (hp3 : inR p3) {M : Mem} {Qm : Int → Mem → Prop} (hw : wp_X3_sumOfBody p1 p2 p3 M Qm) (H : Heap) (locs : List Loc) (hR : Rp G e0 α κ B M H) (hS : va_S (fun q => B ≤ q) s.heap H locs) (ls : Array Slot) (hl : lv_has ls 6 [(0, .ref (α 4 0)), (1, .int (Int32.ofInt p1)), (2, .int (Int32.ofInt p2)), (3, .int (Int32.ofInt p3))]) : WI p l e 4 s m args below meth c G e0 α κ B Qm H locs 0 ls [] := by
  have hw : (∃ n9 : Nat, wp_X3_sumOfBody_10 p1 p2 p3 Qm n9 0 (max 0 p1) M) := hw
  refine sa_const X.1 dX3_sumOfBody_0 ?_
  refine lv_istore (lv' := [(4, .int (Int32.ofInt 0)), (0, .ref (α 4 0)), (1, .int (Int32.ofInt p1)), (2, .int (Int32.ofInt p2)), (3, .int (Int32.ofInt p3))]) X.1.1 X.1.2.1 dX3_sumOfBody_1 hl (by decide) rfl (fun ls hl => ?_)
  refine sa_const X.1 dX3_sumOfBody_3 ?_
  refine lv_iload_n X.1.1 X.1.2.1 dX3_sumOfBody_4 rfl (lv_at hl 2 rfl) ?_
  refine sa_max (R := rmL 4) X.1 (inR_c (a := 0) rfl) hp1 hl.1 kw_470 kmath_max_s kmath_i kmath_max_c (by decide) (Nat.le_of_ble_eq_true rfl) rm_c dX3_sumOfBody_5 ?_
  refine lv_istore (lv' := [(5, .int (Int32.ofInt (max 0 p1))), (4, .int (Int32.ofInt 0)), (0, .ref (α 4 0)), (1, .int (Int32.ofInt p1)), (2, .int (Int32.ofInt p2)), (3, .int (Int32.ofInt p3))]) X.1.1 X.1.2.1 dX3_sumOfBody_8 hl (by decide) rfl (fun ls hl => ?_)
  obtain ⟨n9, hw⟩ := hw
  exact t_X3_sumOfBody_10 X hp1 hp2 hp3 n9 _ _ _ hw (inR_c (a := 0) rfl) (inR_max (inR_c (a := 0) rfl) hp1) _ _ hR hS _ (lv_sub hl [2, 4, 5, 1, 0] rfl)
theorem m_X3_sumOfBody {l : Launch} {G : Gx} {e0 : Nat} {α : Ax} {κ : Nat → Int} {B : Nat} {p1 : Int} {p2 : Int} {p3 : Int} (hκ : kOK κ) (hp1 : inR p1) (hp2 : inR p2) (hp3 : inR p3) {M : Mem} {Qm : Int → Mem → Prop} (hw : wp_X3_sumOfBody p1 p2 p3 M Qm) : CI l yX3_sumOfBody (Cond.code yX3_sumOfBody cX3_sumOfBody 6 (some .int)) 4 G e0 α κ B [.ref (α 4 0), .int (Int32.ofInt p1), .int (Int32.ofInt p2), .int (Int32.ofInt p3)] M Qm :=
  CI.mk hκ (by decide +kernel) rfl (Nat.le_of_ble_eq_true rfl) (lv := [(0, .ref (α 4 0)), (1, .int (Int32.ofInt p1)), (2, .int (Int32.ofInt p2)), (3, .int (Int32.ofInt p3))]) rfl (fun p e s m args below meth c ls X hR hS hl => t_X3_sumOfBody X hp1 hp2 hp3 hw _ _ hR hS ls hl)
theorem cs_X3_sumOfBody {cc : ByteArray} {nL : Nat} {own : String} {ret : Option FieldType} {idx pc : Nat} {p1 : Int} {p2 : Int} {p3 : Int} (X : CX p m c cc nL s args own G B κ meth ret) (hp1 : inR p1) (hp2 : inR p2) (hp3 : inR p3) {kc : Nat} {R : Room} {cells slots : Nat} (hRr : RmOK R kc) (hcel : cells ≤ R.cells ∧ slots ≤ R.slots) (hk : 4 + 1 ≤ kc) {M : Mem} {H : Heap} {locs : List Loc} (hR : Rp G e0 α κ B M H) (hS : va_S (fun q => B ≤ q) s.heap H locs) (k1 : Cond.methodLink own idx yX3_sumOfBody ∈ gw) {ls : Array Slot} (hml : ls.size = nL) {rest : List Value} (hd : decode cc pc = .ok (.invokevirtual idx, 3)) (hrest : (rest.map fun v => v.category).sum ≤ 8) {Q : State → Prop} {Qm : Int → Mem → Prop} (hw : wp_X3_sumOfBody p1 p2 p3 M Qm) (kk : ∀ (r : Int) (M1 : Mem) (H1 : Heap) (locs1 : List Loc), Qm r M1 → inR r → Rp G e0 α κ B M1 H1 → va_S (fun q => B ≤ q) s.heap H1 locs1 → W p l e R s m args below meth c H1 locs1 cells slots Q (F0 m (pc + 3) ls (.int (Int32.ofInt r) :: rest))) : W p l e R s m args below meth c H locs cells slots Q (F0 m pc ls (.int (Int32.ofInt p3) :: .int (Int32.ofInt p2) :: .int (Int32.ofInt p1) :: .ref (α 4 0) :: rest)) :=
  sa_callVI 4 (n := 3) (As := [.int (Int32.ofInt p1), .int (Int32.ofInt p2), .int (Int32.ofInt p3)]) (rest := rest) X.1 X.2.1 hR hS (m_X3_sumOfBody X.2.2.1 hp1 hp2 hp3 hw) k1 kw_1356 kw_1357 kw_39 kw_1358 ⟨rfl, by decide +kernel, by decide +kernel, by decide +kernel⟩ (rm_ok hRr hk (by decide)) (rc_4 X hR (okf X.2.2.1 rfl)) rfl rfl hrest hml hd hcel kk
def wp_X3_endsRun_50 (u1 : Int) (Qm : Int → Mem → Prop) (M : Mem) : Prop := Qm 0 M
def wp_X3_endsRun_46 (u1 : Int) (Qm : Int → Mem → Prop) (M : Mem) : Prop := Qm 1 M
def wp_X3_endsRun (u1 : Int) (M : Mem) (Qm : Int → Mem → Prop) : Prop := (inR ((M 6 u1 6) + 1)) ∧ (((M 6 u1 2) = 0 → wp_X3_endsRun_50 u1 Qm M) ∧ (¬ (M 6 u1 2) = 0 → (((M 16 0 (-1)) ≤ ((M 6 u1 6) + 1) → wp_X3_endsRun_46 u1 Qm M) ∧ (((M 6 u1 6) + 1) < (M 16 0 (-1)) → (0 ≤ ((M 6 u1 6) + 1) ∧ ((M 6 u1 6) + 1) < M 16 0 (-1)) ∧ (bit (if (M 6 (M 16 0 ((M 6 u1 6) + 1)) 2) = (M 6 u1 2) then (0 : Int) else 1)) ∧ Qm (if (M 6 (M 16 0 ((M 6 u1 6) + 1)) 2) = (M 6 u1 2) then (0 : Int) else 1) M))))
set_option maxHeartbeats 4000000 in
set_option maxRecDepth 100000 in
theorem t_X3_endsRun_50 {u1 : Int} (X : CX p m c cX3_endsRun 3 s args RX3 G B κ meth (some .boolean)) (hu1 : okk κ 6 u1) {Qm : Int → Mem → Prop} : ∀ M : Mem, wp_X3_endsRun_50 u1 Qm M → ∀ (H : Heap) (locs : List Loc), Rp G e0 α κ B M H → va_S (fun q => B ≤ q) s.heap H locs → ∀ (ls : Array Slot), lv_has ls 3 [] → WI p l e 3 s m args below meth c G e0 α κ B Qm H locs 50 ls [] := by
  intro M hw H locs hR hS ls hl
  have hw : Qm 0 M := hw
  refine sa_const X.1 dX3_endsRun_50 ?_
  exact sa_zret X.1 X.2.2.2.1 X.2.2.2.2 hR hS (Or.inl rfl) hw dX3_endsRun_51
set_option maxHeartbeats 4000000 in
set_option maxRecDepth 100000 in
theorem t_X3_endsRun_46 {u1 : Int} (X : CX p m c cX3_endsRun 3 s args RX3 G B κ meth (some .boolean)) (hu1 : okk κ 6 u1) {Qm : Int → Mem → Prop} : ∀ M : Mem, wp_X3_endsRun_46 u1 Qm M → ∀ (H : Heap) (locs : List Loc), Rp G e0 α κ B M H → va_S (fun q => B ≤ q) s.heap H locs → ∀ (ls : Array Slot), lv_has ls 3 [] → WI p l e 3 s m args below meth c G e0 α κ B Qm H locs 46 ls [] := by
  intro M hw H locs hR hS ls hl
  have hw : Qm 1 M := hw
  refine sa_const X.1 dX3_endsRun_46 ?_
  refine lv_goto (tgt := 51) X.1.1 X.1.2.1 dX3_endsRun_47 (by decide) ?_
  exact sa_zret X.1 X.2.2.2.1 X.2.2.2.2 hR hS (Or.inr rfl) hw dX3_endsRun_51
set_option maxHeartbeats 4000000 in
set_option maxRecDepth 100000 in
theorem t_X3_endsRun {u1 : Int} (X : CX p m c cX3_endsRun 3 s args RX3 G B κ meth (some .boolean)) (hu1 : okk κ 6 u1) {M : Mem} {Qm : Int → Mem → Prop} (hw : wp_X3_endsRun u1 M Qm) (H : Heap) (locs : List Loc) (hR : Rp G e0 α κ B M H) (hS : va_S (fun q => B ≤ q) s.heap H locs) (ls : Array Slot) (hl : lv_has ls 3 [(0, .ref (α 4 0)), (1, .ref (α 6 u1))]) : WI p l e 3 s m args below meth c G e0 α κ B Qm H locs 0 ls [] := by
  have hw : (inR ((M 6 u1 6) + 1)) ∧ (((M 6 u1 2) = 0 → wp_X3_endsRun_50 u1 Qm M) ∧ (¬ (M 6 u1 2) = 0 → (((M 16 0 (-1)) ≤ ((M 6 u1 6) + 1) → wp_X3_endsRun_46 u1 Qm M) ∧ (((M 6 u1 6) + 1) < (M 16 0 (-1)) → (0 ≤ ((M 6 u1 6) + 1) ∧ ((M 6 u1 6) + 1) < M 16 0 (-1)) ∧ (bit (if (M 6 (M 16 0 ((M 6 u1 6) + 1)) 2) = (M 6 u1 2) then (0 : Int) else 1)) ∧ Qm (if (M 6 (M 16 0 ((M 6 u1 6) + 1)) 2) = (M 6 u1 2) then (0 : Int) else 1) M)))) := hw
  refine lv_aload_n X.1.1 X.1.2.1 dX3_endsRun_0 rfl (lv_at hl 1 rfl) ?_
  refine gt_6_6 X hR hu1 kw_905 dX3_endsRun_1 ?_
  have r1 := hR.r 6 u1 6
  refine sa_const X.1 dX3_endsRun_4 ?_
  have c2 := hw.1
  have hw := hw.2
  refine sa_iadd X.1 dX3_endsRun_5 ?_
  refine lv_istore_n (lv' := [(2, .int (Int32.ofInt ((M 6 u1 6) + 1))), (0, .ref (α 4 0)), (1, .ref (α 6 u1))]) X.1.1 X.1.2.1 dX3_endsRun_6 rfl hl (by decide) rfl (fun ls hl => ?_)
  refine lv_aload_n X.1.1 X.1.2.1 dX3_endsRun_7 rfl (lv_at hl 2 rfl) ?_
  refine gt_6_2 X hR hu1 kw_897 dX3_endsRun_8 ?_
  have r3 := hR.r 6 u1 2
  refine sa_if_eq (tgt := 50) X.1 r3 dX3_endsRun_11 (by decide) (fun hc => ?_) (fun hc => ?_)
  · have hw := hw.1 hc
    exact t_X3_endsRun_50 X hu1 _ hw _ _ hR hS _ (lv_sub hl [] rfl)
  · have hw := hw.2 hc
    refine lv_iload_n X.1.1 X.1.2.1 dX3_endsRun_14 rfl (lv_at hl 0 rfl) ?_
    refine lv_aload_n X.1.1 X.1.2.1 dX3_endsRun_15 rfl (lv_at hl 1 rfl) ?_
    refine gt_4_4 X hR (okf X.2.2.1 rfl) kw_124 dX3_endsRun_16 ?_
    refine ls_size (by decide) (by decide) X (kc := 3) rmL_ok rm_c (by decide) hR hS kw_441 hl.1 dX3_endsRun_19 (Nat.le_of_ble_eq_true rfl) (fun H locs hR hS => ?_)
    have r4 := hR.r 16 0 (-1)
    refine sa_icmp_ge (tgt := 46) X.1 c2 r4 dX3_endsRun_22 (by decide) (fun hc => ?_) (fun hc => ?_)
    · have hw := hw.1 hc
      exact t_X3_endsRun_46 X hu1 _ hw _ _ hR hS _ (lv_sub hl [] rfl)
    · have hw := hw.2 hc
      refine lv_aload_n X.1.1 X.1.2.1 dX3_endsRun_25 rfl (lv_at hl 1 rfl) ?_
      refine gt_4_4 X hR (okf X.2.2.1 rfl) kw_124 dX3_endsRun_26 ?_
      refine lv_iload_n X.1.1 X.1.2.1 dX3_endsRun_29 rfl (lv_at hl 0 rfl) ?_
      have c5 := hw.1
      have hw := hw.2
      refine ls_get (ci := 6) (by decide) (by decide) rfl X c5 (kc := 3) rmL_ok rm_c (by decide) hR hS kw_442 hl.1 dX3_endsRun_30 (Nat.le_of_ble_eq_true rfl) (fun H locs o6 hR hS => ?_)
      refine ck_6 X hR o6 kw_580 dX3_endsRun_33 ?_
      refine gt_6_2 X hR o6 kw_897 dX3_endsRun_36 ?_
      have r7 := hR.r 6 (M 16 0 ((M 6 u1 6) + 1)) 2
      refine lv_aload_n X.1.1 X.1.2.1 dX3_endsRun_39 rfl (lv_at hl 2 rfl) ?_
      refine gt_6_2 X hR hu1 kw_897 dX3_endsRun_40 ?_
      have r8 := hR.r 6 u1 2
      have r9 := inR_ite (c := (M 6 (M 16 0 ((M 6 u1 6) + 1)) 2) = (M 6 u1 2)) (inR_c (a := 0) rfl) (inR_c (a := 1) rfl)
      refine cut_j (A := ∀ v10 : Int, v10 = (if (M 6 (M 16 0 ((M 6 u1 6) + 1)) 2) = (M 6 u1 2) then (0 : Int) else 1) → WI p l e 3 s m args below meth c G e0 α κ B Qm H locs 51 ls [.int (Int32.ofInt v10)]) (fun J11 => ?_) ?_
      · refine sa_icmp_eq (tgt := 50) X.1 r7 r8 dX3_endsRun_43 (by decide) (fun hc => ?_) (fun hc => ?_)
        · skip
          refine sa_const X.1 dX3_endsRun_50 ?_
          exact J11 (0) (if_pos (c := (M 6 (M 16 0 ((M 6 u1 6) + 1)) 2) = (M 6 u1 2)) hc).symm
        · skip
          refine sa_const X.1 dX3_endsRun_46 ?_
          refine lv_goto (tgt := 51) X.1.1 X.1.2.1 dX3_endsRun_47 (by decide) ?_
          exact J11 (1) (if_neg (c := (M 6 (M 16 0 ((M 6 u1 6) + 1)) 2) = (M 6 u1 2)) hc).symm
      intro v10 hv10
      subst hv10
      have c12 := hw.1
      have hw := hw.2
      exact sa_zret X.1 X.2.2.2.1 X.2.2.2.2 hR hS c12 hw dX3_endsRun_51
theorem m_X3_endsRun {l : Launch} {G : Gx} {e0 : Nat} {α : Ax} {κ : Nat → Int} {B : Nat} {u1 : Int} (hκ : kOK κ) (hu1 : okk κ 6 u1) {M : Mem} {Qm : Int → Mem → Prop} (hw : wp_X3_endsRun u1 M Qm) : CI l yX3_endsRun (Cond.code yX3_endsRun cX3_endsRun 3 (some .boolean)) 3 G e0 α κ B [.ref (α 4 0), .ref (α 6 u1)] M Qm :=
  CI.mk hκ (by decide +kernel) rfl (Nat.le_of_ble_eq_true rfl) (lv := [(0, .ref (α 4 0)), (1, .ref (α 6 u1))]) rfl (fun p e s m args below meth c ls X hR hS hl => t_X3_endsRun X hu1 hw _ _ hR hS ls hl)
theorem cs_X3_endsRun {cc : ByteArray} {nL : Nat} {own : String} {ret : Option FieldType} {idx pc : Nat} {u1 : Int} (X : CX p m c cc nL s args own G B κ meth ret) (hu1 : okk κ 6 u1) {kc : Nat} {R : Room} {cells slots : Nat} (hRr : RmOK R kc) (hcel : cells ≤ R.cells ∧ slots ≤ R.slots) (hk : 3 + 1 ≤ kc) {M : Mem} {H : Heap} {locs : List Loc} (hR : Rp G e0 α κ B M H) (hS : va_S (fun q => B ≤ q) s.heap H locs) (k1 : Cond.methodLink own idx yX3_endsRun ∈ gw) {ls : Array Slot} (hml : ls.size = nL) {rest : List Value} (hd : decode cc pc = .ok (.invokevirtual idx, 3)) (hrest : (rest.map fun v => v.category).sum ≤ 8) {Q : State → Prop} {Qm : Int → Mem → Prop} (hw : wp_X3_endsRun u1 M Qm) (kk : ∀ (r : Int) (M1 : Mem) (H1 : Heap) (locs1 : List Loc), Qm r M1 → inR r → Rp G e0 α κ B M1 H1 → va_S (fun q => B ≤ q) s.heap H1 locs1 → W p l e R s m args below meth c H1 locs1 cells slots Q (F0 m (pc + 3) ls (.int (Int32.ofInt r) :: rest))) : W p l e R s m args below meth c H locs cells slots Q (F0 m pc ls (.ref (α 6 u1) :: .ref (α 4 0) :: rest)) :=
  sa_callVI 3 (n := 1) (As := [.ref (α 6 u1)]) (rest := rest) X.1 X.2.1 hR hS (m_X3_endsRun X.2.2.1 hu1 hw) k1 kw_577 kw_578 kw_39 kw_579 ⟨rfl, by decide +kernel, by decide +kernel, by decide +kernel⟩ (rm_ok hRr hk (by decide)) (rc_4 X hR (okf X.2.2.1 rfl)) rfl rfl hrest hml hd hcel kk
def wp_X3_hasBodyCellOfSeveralRows_54 (Qm : Int → Mem → Prop) (K2 : Int → Mem → Prop) (y1 : Int) (M : Mem) : Prop := (inR (y1 + 1)) ∧ K2 (y1 + 1) M
def wp_X3_hasBodyCellOfSeveralRows_2 (Qm : Int → Mem → Prop) : Nat → Int → Mem → Prop
  | 0 => fun _ _ => False
  | n + 1 => fun y1 M => (((M 14 0 (-1)) ≤ y1 → Qm 0 M) ∧ (y1 < (M 14 0 (-1)) → (0 ≤ y1 ∧ y1 < M 14 0 (-1)) ∧ (((M 1 (M 14 0 y1) 2) ≤ 1 → wp_X3_hasBodyCellOfSeveralRows_54 Qm (wp_X3_hasBodyCellOfSeveralRows_2 Qm n) y1 M) ∧ (1 < (M 1 (M 14 0 y1) 2) → (0 ≤ y1 ∧ y1 < M 14 0 (-1)) ∧ ((¬ (M 6 (M 1 (M 14 0 y1) 0) 1) = 1 → wp_X3_hasBodyCellOfSeveralRows_54 Qm (wp_X3_hasBodyCellOfSeveralRows_2 Qm n) y1 M) ∧ ((M 6 (M 1 (M 14 0 y1) 0) 1) = 1 → Qm 1 M))))))
def wp_X3_hasBodyCellOfSeveralRows (M : Mem) (Qm : Int → Mem → Prop) : Prop := (∃ n10 : Nat, wp_X3_hasBodyCellOfSeveralRows_2 Qm n10 0 M)
set_option maxHeartbeats 4000000 in
set_option maxRecDepth 100000 in
theorem t_X3_hasBodyCellOfSeveralRows_54 (X : CX p m c cX3_hasBodyCellOfSeveralRows 2 s args RX3 G B κ meth (some .boolean)) {Qm : Int → Mem → Prop} {K2 : Int → Mem → Prop} (hK2 : ∀ y1 : Int, ∀ M : Mem, K2 y1 M → inR y1 → ∀ (H : Heap) (locs : List Loc), Rp G e0 α κ B M H → va_S (fun q => B ≤ q) s.heap H locs → ∀ (ls : Array Slot), lv_has ls 2 [(0, .ref (α 4 0)), (1, .int (Int32.ofInt y1))] → WI p l e 3 s m args below meth c G e0 α κ B Qm H locs 2 ls []) : ∀ y1 : Int, ∀ M : Mem, wp_X3_hasBodyCellOfSeveralRows_54 Qm K2 y1 M → inR y1 → ∀ (H : Heap) (locs : List Loc), Rp G e0 α κ B M H → va_S (fun q => B ≤ q) s.heap H locs → ∀ (ls : Array Slot), lv_has ls 2 [(0, .ref (α 4 0)), (1, .int (Int32.ofInt y1))] → WI p l e 3 s m args below meth c G e0 α κ B Qm H locs 54 ls [] := by
  intro y1 M hw hy1 H locs hR hS ls hl
  have hw : (inR (y1 + 1)) ∧ K2 (y1 + 1) M := hw
  have c5 := hw.1
  have hw := hw.2
  refine lv_iinc (v := Int32.ofInt (y1 + 1)) (lv' := [(1, .int (Int32.ofInt (y1 + 1))), (0, .ref (α 4 0))]) X.1.1 X.1.2.1 dX3_hasBodyCellOfSeveralRows_54 hl (k := 1) rfl (Int32.ofInt_add _ _).symm (by decide) rfl (fun ls hl => ?_)
  refine lv_goto (tgt := 2) X.1.1 X.1.2.1 dX3_hasBodyCellOfSeveralRows_57 (by decide) ?_
  exact hK2 _ _ hw c5 _ _ hR hS _ (lv_sub hl [1, 0] rfl)
set_option maxHeartbeats 4000000 in
set_option maxRecDepth 100000 in
theorem t_X3_hasBodyCellOfSeveralRows_2 (X : CX p m c cX3_hasBodyCellOfSeveralRows 2 s args RX3 G B κ meth (some .boolean)) {Qm : Int → Mem → Prop} : ∀ n : Nat, ∀ y1 : Int, ∀ M : Mem, wp_X3_hasBodyCellOfSeveralRows_2 Qm n y1 M → inR y1 → ∀ (H : Heap) (locs : List Loc), Rp G e0 α κ B M H → va_S (fun q => B ≤ q) s.heap H locs → ∀ (ls : Array Slot), lv_has ls 2 [(0, .ref (α 4 0)), (1, .int (Int32.ofInt y1))] → WI p l e 3 s m args below meth c G e0 α κ B Qm H locs 2 ls [] := by
  intro n
  induction n with
  | zero =>
    intro y1 M hw hy1 H locs hR hS ls hl
    exact hw.elim
  | succ n ih =>
    intro y1 M hw hy1 H locs hR hS ls hl
    have hw : (((M 14 0 (-1)) ≤ y1 → Qm 0 M) ∧ (y1 < (M 14 0 (-1)) → (0 ≤ y1 ∧ y1 < M 14 0 (-1)) ∧ (((M 1 (M 14 0 y1) 2) ≤ 1 → wp_X3_hasBodyCellOfSeveralRows_54 Qm (wp_X3_hasBodyCellOfSeveralRows_2 Qm n) y1 M) ∧ (1 < (M 1 (M 14 0 y1) 2) → (0 ≤ y1 ∧ y1 < M 14 0 (-1)) ∧ ((¬ (M 6 (M 1 (M 14 0 y1) 0) 1) = 1 → wp_X3_hasBodyCellOfSeveralRows_54 Qm (wp_X3_hasBodyCellOfSeveralRows_2 Qm n) y1 M) ∧ ((M 6 (M 1 (M 14 0 y1) 0) 1) = 1 → Qm 1 M)))))) := hw
    refine lv_iload_n X.1.1 X.1.2.1 dX3_hasBodyCellOfSeveralRows_2 rfl (lv_at hl 1 rfl) ?_
    refine lv_aload_n X.1.1 X.1.2.1 dX3_hasBodyCellOfSeveralRows_3 rfl (lv_at hl 0 rfl) ?_
    refine gt_4_2 X hR (okf X.2.2.1 rfl) kw_118 dX3_hasBodyCellOfSeveralRows_4 ?_
    refine ls_size (by decide) (by decide) X (kc := 3) rmL_ok rm_c (by decide) hR hS kw_441 hl.1 dX3_hasBodyCellOfSeveralRows_7 (Nat.le_of_ble_eq_true rfl) (fun H locs hR hS => ?_)
    have r1 := hR.r 14 0 (-1)
    refine sa_icmp_ge (tgt := 60) X.1 hy1 r1 dX3_hasBodyCellOfSeveralRows_10 (by decide) (fun hc => ?_) (fun hc => ?_)
    · have hw := hw.1 hc
      refine sa_const X.1 dX3_hasBodyCellOfSeveralRows_60 ?_
      exact sa_zret X.1 X.2.2.2.1 X.2.2.2.2 hR hS (Or.inl rfl) hw dX3_hasBodyCellOfSeveralRows_61
    · have hw := hw.2 hc
      refine lv_aload_n X.1.1 X.1.2.1 dX3_hasBodyCellOfSeveralRows_13 rfl (lv_at hl 0 rfl) ?_
      refine gt_4_2 X hR (okf X.2.2.1 rfl) kw_118 dX3_hasBodyCellOfSeveralRows_14 ?_
      refine lv_iload_n X.1.1 X.1.2.1 dX3_hasBodyCellOfSeveralRows_17 rfl (lv_at hl 1 rfl) ?_
      have c2 := hw.1
      have hw := hw.2
      refine ls_get (ci := 1) (by decide) (by decide) rfl X c2 (kc := 3) rmL_ok rm_c (by decide) hR hS kw_442 hl.1 dX3_hasBodyCellOfSeveralRows_18 (Nat.le_of_ble_eq_true rfl) (fun H locs o3 hR hS => ?_)
      refine ck_1 X hR o3 kw_653 dX3_hasBodyCellOfSeveralRows_21 ?_
      refine gt_1_2 X hR o3 kw_994 dX3_hasBodyCellOfSeveralRows_24 ?_
      have r4 := hR.r 1 (M 14 0 y1) 2
      refine sa_const X.1 dX3_hasBodyCellOfSeveralRows_27 ?_
      refine sa_icmp_le (tgt := 54) X.1 r4 (inR_c (a := 1) rfl) dX3_hasBodyCellOfSeveralRows_28 (by decide) (fun hc => ?_) (fun hc => ?_)
      · have hw := hw.1 hc
        exact t_X3_hasBodyCellOfSeveralRows_54 X ih _ _ hw hy1 _ _ hR hS _ (lv_sub hl [0, 1] rfl)
      · have hw := hw.2 hc
        refine lv_aload_n X.1.1 X.1.2.1 dX3_hasBodyCellOfSeveralRows_31 rfl (lv_at hl 0 rfl) ?_
        refine gt_4_2 X hR (okf X.2.2.1 rfl) kw_118 dX3_hasBodyCellOfSeveralRows_32 ?_
        refine lv_iload_n X.1.1 X.1.2.1 dX3_hasBodyCellOfSeveralRows_35 rfl (lv_at hl 1 rfl) ?_
        have c6 := hw.1
        have hw := hw.2
        refine ls_get (ci := 1) (by decide) (by decide) rfl X c6 (kc := 3) rmL_ok rm_c (by decide) hR hS kw_442 hl.1 dX3_hasBodyCellOfSeveralRows_36 (Nat.le_of_ble_eq_true rfl) (fun H locs o7 hR hS => ?_)
        refine ck_1 X hR o7 kw_653 dX3_hasBodyCellOfSeveralRows_39 ?_
        refine gt_1_0 X hR o7 kw_986 dX3_hasBodyCellOfSeveralRows_42 ?_
        have o8 := hR.2.2.2.1 _ o7
        refine gt_6_1 X hR o8 kw_893 dX3_hasBodyCellOfSeveralRows_45 ?_
        have r9 := hR.r 6 (M 1 (M 14 0 y1) 0) 1
        refine sa_const X.1 dX3_hasBodyCellOfSeveralRows_48 ?_
        refine sa_icmp_ne (tgt := 54) X.1 r9 (inR_c (a := 1) rfl) dX3_hasBodyCellOfSeveralRows_49 (by decide) (fun hc => ?_) (fun hc => ?_)
        · have hw := hw.1 hc
          exact t_X3_hasBodyCellOfSeveralRows_54 X ih _ _ hw hy1 _ _ hR hS _ (lv_sub hl [0, 1] rfl)
        · have hw := hw.2 hc
          refine sa_const X.1 dX3_hasBodyCellOfSeveralRows_52 ?_
          exact sa_zret X.1 X.2.2.2.1 X.2.2.2.2 hR hS (Or.inr rfl) hw dX3_hasBodyCellOfSeveralRows_53
set_option maxHeartbeats 4000000 in
set_option maxRecDepth 100000 in
theorem t_X3_hasBodyCellOfSeveralRows (X : CX p m c cX3_hasBodyCellOfSeveralRows 2 s args RX3 G B κ meth (some .boolean)) {M : Mem} {Qm : Int → Mem → Prop} (hw : wp_X3_hasBodyCellOfSeveralRows M Qm) (H : Heap) (locs : List Loc) (hR : Rp G e0 α κ B M H) (hS : va_S (fun q => B ≤ q) s.heap H locs) (ls : Array Slot) (hl : lv_has ls 2 [(0, .ref (α 4 0))]) : WI p l e 3 s m args below meth c G e0 α κ B Qm H locs 0 ls [] := by
  have hw : (∃ n10 : Nat, wp_X3_hasBodyCellOfSeveralRows_2 Qm n10 0 M) := hw
  refine sa_const X.1 dX3_hasBodyCellOfSeveralRows_0 ?_
  refine lv_istore_n (lv' := [(1, .int (Int32.ofInt 0)), (0, .ref (α 4 0))]) X.1.1 X.1.2.1 dX3_hasBodyCellOfSeveralRows_1 rfl hl (by decide) rfl (fun ls hl => ?_)
  obtain ⟨n10, hw⟩ := hw
  exact t_X3_hasBodyCellOfSeveralRows_2 X n10 _ _ hw (inR_c (a := 0) rfl) _ _ hR hS _ (lv_sub hl [1, 0] rfl)
theorem m_X3_hasBodyCellOfSeveralRows {l : Launch} {G : Gx} {e0 : Nat} {α : Ax} {κ : Nat → Int} {B : Nat} (hκ : kOK κ) {M : Mem} {Qm : Int → Mem → Prop} (hw : wp_X3_hasBodyCellOfSeveralRows M Qm) : CI l yX3_hasBodyCellOfSeveralRows (Cond.code yX3_hasBodyCellOfSeveralRows cX3_hasBodyCellOfSeveralRows 2 (some .boolean)) 3 G e0 α κ B [.ref (α 4 0)] M Qm :=
  CI.mk hκ (by decide +kernel) rfl (Nat.le_of_ble_eq_true rfl) (lv := [(0, .ref (α 4 0))]) rfl (fun p e s m args below meth c ls X hR hS hl => t_X3_hasBodyCellOfSeveralRows X hw _ _ hR hS ls hl)
theorem cs_X3_hasBodyCellOfSeveralRows {cc : ByteArray} {nL : Nat} {own : String} {ret : Option FieldType} {idx pc : Nat} (X : CX p m c cc nL s args own G B κ meth ret) {kc : Nat} {R : Room} {cells slots : Nat} (hRr : RmOK R kc) (hcel : cells ≤ R.cells ∧ slots ≤ R.slots) (hk : 3 + 1 ≤ kc) {M : Mem} {H : Heap} {locs : List Loc} (hR : Rp G e0 α κ B M H) (hS : va_S (fun q => B ≤ q) s.heap H locs) (k1 : Cond.methodLink own idx yX3_hasBodyCellOfSeveralRows ∈ gw) {ls : Array Slot} (hml : ls.size = nL) {rest : List Value} (hd : decode cc pc = .ok (.invokevirtual idx, 3)) (hrest : (rest.map fun v => v.category).sum ≤ 8) {Q : State → Prop} {Qm : Int → Mem → Prop} (hw : wp_X3_hasBodyCellOfSeveralRows M Qm) (kk : ∀ (r : Int) (M1 : Mem) (H1 : Heap) (locs1 : List Loc), Qm r M1 → inR r → Rp G e0 α κ B M1 H1 → va_S (fun q => B ≤ q) s.heap H1 locs1 → W p l e R s m args below meth c H1 locs1 cells slots Q (F0 m (pc + 3) ls (.int (Int32.ofInt r) :: rest))) : W p l e R s m args below meth c H locs cells slots Q (F0 m pc ls (.ref (α 4 0) :: rest)) :=
  sa_callVI 3 (n := 0) (As := []) (rest := rest) X.1 X.2.1 hR hS (m_X3_hasBodyCellOfSeveralRows X.2.2.1 hw) k1 kw_1137 kw_1138 kw_39 kw_1139 ⟨rfl, by decide +kernel, by decide +kernel, by decide +kernel⟩ (rm_ok hRr hk (by decide)) (rc_4 X hR (okf X.2.2.1 rfl)) rfl rfl hrest hml hd hcel kk
def wp_X3_goesAhead (u1 : Int) (u2 : Int) (p3 : Int) (p4 : Int) (M : Mem) (Qm : Int → Mem → Prop) : Prop := wp_X3_hasFigureAt u1 p3 M fun (x2 : Int) (M1 : Mem) => ((¬ x2 = 0 → wp_X3_hasFigureAt u2 p3 M1 fun (x5 : Int) (M4 : Mem) => ((¬ x5 = 0 → wp_X3_figureAt u1 p3 M4 fun (x8 : Int) (M7 : Mem) => wp_X3_figureAt u2 p3 M7 fun (x11 : Int) (M10 : Mem) => (bit (if p4 = 0 then (if x11 ≤ x8 then (0 : Int) else 1) else (if x8 ≤ x11 then (0 : Int) else 1))) ∧ Qm (if p4 = 0 then (if x11 ≤ x8 then (0 : Int) else 1) else (if x8 ≤ x11 then (0 : Int) else 1)) M10) ∧ (x5 = 0 → Qm 1 M4))) ∧ (x2 = 0 → Qm 0 M1))
set_option maxHeartbeats 4000000 in
set_option maxRecDepth 100000 in
theorem t_X3_goesAhead {u1 : Int} {u2 : Int} {p3 : Int} {p4 : Int} (X : CX p m c cX3_goesAhead 7 s args RX3 G B κ meth (some .boolean)) (hu1 : okk κ 6 u1) (hu2 : okk κ 6 u2) (hp3 : inR p3) (hp4 : inR p4) {M : Mem} {Qm : Int → Mem → Prop} (hw : wp_X3_goesAhead u1 u2 p3 p4 M Qm) (H : Heap) (locs : List Loc) (hR : Rp G e0 α κ B M H) (hS : va_S (fun q => B ≤ q) s.heap H locs) (ls : Array Slot) (hl : lv_has ls 7 [(0, .ref (α 4 0)), (1, .ref (α 6 u1)), (2, .ref (α 6 u2)), (3, .int (Int32.ofInt p3)), (4, .int (Int32.ofInt p4))]) : WI p l e 4 s m args below meth c G e0 α κ B Qm H locs 0 ls [] := by
  have hw : wp_X3_hasFigureAt u1 p3 M fun (x2 : Int) (M1 : Mem) => ((¬ x2 = 0 → wp_X3_hasFigureAt u2 p3 M1 fun (x5 : Int) (M4 : Mem) => ((¬ x5 = 0 → wp_X3_figureAt u1 p3 M4 fun (x8 : Int) (M7 : Mem) => wp_X3_figureAt u2 p3 M7 fun (x11 : Int) (M10 : Mem) => (bit (if p4 = 0 then (if x11 ≤ x8 then (0 : Int) else 1) else (if x8 ≤ x11 then (0 : Int) else 1))) ∧ Qm (if p4 = 0 then (if x11 ≤ x8 then (0 : Int) else 1) else (if x8 ≤ x11 then (0 : Int) else 1)) M10) ∧ (x5 = 0 → Qm 1 M4))) ∧ (x2 = 0 → Qm 0 M1)) := hw
  refine lv_aload_n X.1.1 X.1.2.1 dX3_goesAhead_0 rfl (lv_at hl 0 rfl) ?_
  refine lv_aload_n X.1.1 X.1.2.1 dX3_goesAhead_1 rfl (lv_at hl 1 rfl) ?_
  refine lv_iload_n X.1.1 X.1.2.1 dX3_goesAhead_2 rfl (lv_at hl 3 rfl) ?_
  refine cs_X3_hasFigureAt X hu1 hp3 (kc := 4) rmL_ok rm_c (by decide) hR hS kw_1149 hl.1 dX3_goesAhead_3 (Nat.le_of_ble_eq_true rfl) hw (fun x2 M1 H locs hw r3 hR hS => ?_)
  refine sa_if_ne (tgt := 11) X.1 r3 dX3_goesAhead_6 (by decide) (fun hc => ?_) (fun hc => ?_)
  · have hw := hw.1 hc
    refine lv_aload_n X.1.1 X.1.2.1 dX3_goesAhead_11 rfl (lv_at hl 0 rfl) ?_
    refine lv_aload_n X.1.1 X.1.2.1 dX3_goesAhead_12 rfl (lv_at hl 2 rfl) ?_
    refine lv_iload_n X.1.1 X.1.2.1 dX3_goesAhead_13 rfl (lv_at hl 3 rfl) ?_
    refine cs_X3_hasFigureAt X hu2 hp3 (kc := 4) rmL_ok rm_c (by decide) hR hS kw_1149 hl.1 dX3_goesAhead_14 (Nat.le_of_ble_eq_true rfl) hw (fun x5 M4 H locs hw r6 hR hS => ?_)
    refine sa_if_ne (tgt := 22) X.1 r6 dX3_goesAhead_17 (by decide) (fun hc => ?_) (fun hc => ?_)
    · have hw := hw.1 hc
      refine lv_aload_n X.1.1 X.1.2.1 dX3_goesAhead_22 rfl (lv_at hl 0 rfl) ?_
      refine lv_aload_n X.1.1 X.1.2.1 dX3_goesAhead_23 rfl (lv_at hl 1 rfl) ?_
      refine lv_iload_n X.1.1 X.1.2.1 dX3_goesAhead_24 rfl (lv_at hl 3 rfl) ?_
      refine cs_X3_figureAt X hu1 hp3 (kc := 4) rmL_ok rm_c (by decide) hR hS kw_1153 hl.1 dX3_goesAhead_25 (Nat.le_of_ble_eq_true rfl) hw (fun x8 M7 H locs hw r9 hR hS => ?_)
      refine lv_istore (lv' := [(5, .int (Int32.ofInt x8)), (0, .ref (α 4 0)), (1, .ref (α 6 u1)), (2, .ref (α 6 u2)), (3, .int (Int32.ofInt p3)), (4, .int (Int32.ofInt p4))]) X.1.1 X.1.2.1 dX3_goesAhead_28 hl (by decide) rfl (fun ls hl => ?_)
      refine lv_aload_n X.1.1 X.1.2.1 dX3_goesAhead_30 rfl (lv_at hl 1 rfl) ?_
      refine lv_aload_n X.1.1 X.1.2.1 dX3_goesAhead_31 rfl (lv_at hl 3 rfl) ?_
      refine lv_iload_n X.1.1 X.1.2.1 dX3_goesAhead_32 rfl (lv_at hl 4 rfl) ?_
      refine cs_X3_figureAt X hu2 hp3 (kc := 4) rmL_ok rm_c (by decide) hR hS kw_1153 hl.1 dX3_goesAhead_33 (Nat.le_of_ble_eq_true rfl) hw (fun x11 M10 H locs hw r12 hR hS => ?_)
      refine lv_istore (lv' := [(6, .int (Int32.ofInt x11)), (5, .int (Int32.ofInt x8)), (0, .ref (α 4 0)), (1, .ref (α 6 u1)), (2, .ref (α 6 u2)), (3, .int (Int32.ofInt p3)), (4, .int (Int32.ofInt p4))]) X.1.1 X.1.2.1 dX3_goesAhead_36 hl (by decide) rfl (fun ls hl => ?_)
      refine lv_iload X.1.1 X.1.2.1 dX3_goesAhead_38 (lv_at hl 6 rfl) ?_
      have r17 := inR_ite (c := p4 = 0) (inR_ite (c := x11 ≤ x8) (inR_c (a := 0) rfl) (inR_c (a := 1) rfl)) (inR_ite (c := x8 ≤ x11) (inR_c (a := 0) rfl) (inR_c (a := 1) rfl))
      refine cut_j (A := ∀ v18 : Int, v18 = (if p4 = 0 then (if x11 ≤ x8 then (0 : Int) else 1) else (if x8 ≤ x11 then (0 : Int) else 1)) → WI p l e 4 s m args below meth c G e0 α κ B Qm H locs 70 ls [.int (Int32.ofInt v18)]) (fun J19 => ?_) ?_
      · refine sa_if_eq (tgt := 58) X.1 hp4 dX3_goesAhead_40 (by decide) (fun hc => ?_) (fun hc => ?_)
        · skip
          refine lv_iload X.1.1 X.1.2.1 dX3_goesAhead_58 (lv_at hl 1 rfl) ?_
          refine lv_iload X.1.1 X.1.2.1 dX3_goesAhead_60 (lv_at hl 0 rfl) ?_
          refine cut_j (A := ∀ v13 : Int, v13 = (if x11 ≤ x8 then (0 : Int) else 1) → WI p l e 4 s m args below meth c G e0 α κ B Qm H locs 70 ls [.int (Int32.ofInt v13)]) (fun J14 => ?_) ?_
          · refine sa_icmp_ge (tgt := 69) X.1 r9 r12 dX3_goesAhead_62 (by decide) (fun hc => ?_) (fun hc => ?_)
            · skip
              refine sa_const X.1 dX3_goesAhead_69 ?_
              exact J14 (0) (if_pos (c := x11 ≤ x8) hc).symm
            · skip
              refine sa_const X.1 dX3_goesAhead_65 ?_
              refine lv_goto (tgt := 70) X.1.1 X.1.2.1 dX3_goesAhead_66 (by decide) ?_
              exact J14 (1) (if_neg (c := x11 ≤ x8) (Int.not_le.mpr hc)).symm
          intro v13 hv13
          subst hv13
          exact J19 ((if x11 ≤ x8 then (0 : Int) else 1)) (if_pos (c := p4 = 0) hc).symm
        · skip
          refine lv_iload X.1.1 X.1.2.1 dX3_goesAhead_43 (lv_at hl 1 rfl) ?_
          refine lv_iload X.1.1 X.1.2.1 dX3_goesAhead_45 (lv_at hl 0 rfl) ?_
          refine cut_j (A := ∀ v15 : Int, v15 = (if x8 ≤ x11 then (0 : Int) else 1) → WI p l e 4 s m args below meth c G e0 α κ B Qm H locs 70 ls [.int (Int32.ofInt v15)]) (fun J16 => ?_) ?_
          · refine sa_icmp_le (tgt := 54) X.1 r9 r12 dX3_goesAhead_47 (by decide) (fun hc => ?_) (fun hc => ?_)
            · skip
              refine sa_const X.1 dX3_goesAhead_54 ?_
              refine lv_goto (tgt := 70) X.1.1 X.1.2.1 dX3_goesAhead_55 (by decide) ?_
              exact J16 (0) (if_pos (c := x8 ≤ x11) hc).symm
            · skip
              refine sa_const X.1 dX3_goesAhead_50 ?_
              refine lv_goto (tgt := 70) X.1.1 X.1.2.1 dX3_goesAhead_51 (by decide) ?_
              exact J16 (1) (if_neg (c := x8 ≤ x11) (Int.not_le.mpr hc)).symm
          intro v15 hv15
          subst hv15
          exact J19 ((if x8 ≤ x11 then (0 : Int) else 1)) (if_neg (c := p4 = 0) hc).symm
      intro v18 hv18
      subst hv18
      have c20 := hw.1
      have hw := hw.2
      exact sa_zret X.1 X.2.2.2.1 X.2.2.2.2 hR hS c20 hw dX3_goesAhead_70
    · have hw := hw.2 hc
      refine sa_const X.1 dX3_goesAhead_20 ?_
      exact sa_zret X.1 X.2.2.2.1 X.2.2.2.2 hR hS (Or.inr rfl) hw dX3_goesAhead_21
  · have hw := hw.2 hc
    refine sa_const X.1 dX3_goesAhead_9 ?_
    exact sa_zret X.1 X.2.2.2.1 X.2.2.2.2 hR hS (Or.inl rfl) hw dX3_goesAhead_10
theorem m_X3_goesAhead {l : Launch} {G : Gx} {e0 : Nat} {α : Ax} {κ : Nat → Int} {B : Nat} {u1 : Int} {u2 : Int} {p3 : Int} {p4 : Int} (hκ : kOK κ) (hu1 : okk κ 6 u1) (hu2 : okk κ 6 u2) (hp3 : inR p3) (hp4 : inR p4) {M : Mem} {Qm : Int → Mem → Prop} (hw : wp_X3_goesAhead u1 u2 p3 p4 M Qm) : CI l yX3_goesAhead (Cond.code yX3_goesAhead cX3_goesAhead 7 (some .boolean)) 4 G e0 α κ B [.ref (α 4 0), .ref (α 6 u1), .ref (α 6 u2), .int (Int32.ofInt p3), .int (Int32.ofInt p4)] M Qm :=
  CI.mk hκ (by decide +kernel) rfl (Nat.le_of_ble_eq_true rfl) (lv := [(0, .ref (α 4 0)), (1, .ref (α 6 u1)), (2, .ref (α 6 u2)), (3, .int (Int32.ofInt p3)), (4, .int (Int32.ofInt p4))]) rfl (fun p e s m args below meth c ls X hR hS hl => t_X3_goesAhead X hu1 hu2 hp3 hp4 hw _ _ hR hS ls hl)
theorem cs_X3_goesAhead {cc : ByteArray} {nL : Nat} {own : String} {ret : Option FieldType} {idx pc : Nat} {u1 : Int} {u2 : Int} {p3 : Int} {p4 : Int} (X : CX p m c cc nL s args own G B κ meth ret) (hu1 : okk κ 6 u1) (hu2 : okk κ 6 u2) (hp3 : inR p3) (hp4 : inR p4) {kc : Nat} {R : Room} {cells slots : Nat} (hRr : RmOK R kc) (hcel : cells ≤ R.cells ∧ slots ≤ R.slots) (hk : 4 + 1 ≤ kc) {M : Mem} {H : Heap} {locs : List Loc} (hR : Rp G e0 α κ B M H) (hS : va_S (fun q => B ≤ q) s.heap H locs) (k1 : Cond.methodLink own idx yX3_goesAhead ∈ gw) {ls : Array Slot} (hml : ls.size = nL) {rest : List Value} (hd : decode cc pc = .ok (.invokevirtual idx, 3)) (hrest : (rest.map fun v => v.category).sum ≤ 8) {Q : State → Prop} {Qm : Int → Mem → Prop} (hw : wp_X3_goesAhead u1 u2 p3 p4 M Qm) (kk : ∀ (r : Int) (M1 : Mem) (H1 : Heap) (locs1 : List Loc), Qm r M1 → inR r → Rp G e0 α κ B M1 H1 → va_S (fun q => B ≤ q) s.heap H1 locs1 → W p l e R s m args below meth c H1 locs1 cells slots Q (F0 m (pc + 3) ls (.int (Int32.ofInt r) :: rest))) : W p l e R s m args below meth c H locs cells slots Q (F0 m pc ls (.int (Int32.ofInt p4) :: .int (Int32.ofInt p3) :: .ref (α 6 u2) :: .ref (α 6 u1) :: .ref (α 4 0) :: rest)) :=
  sa_callVI 4 (n := 4) (As := [.ref (α 6 u1), .ref (α 6 u2), .int (Int32.ofInt p3), .int (Int32.ofInt p4)]) (rest := rest) X.1 X.2.1 hR hS (m_X3_goesAhead X.2.2.1 hu1 hu2 hp3 hp4 hw) k1 kw_1147 kw_30 kw_39 kw_1148 ⟨rfl, by decide +kernel, by decide +kernel, by decide +kernel⟩ (rm_ok hRr hk (by decide)) (rc_4 X hR (okf X.2.2.1 rfl)) rfl rfl hrest hml hd hcel kk
def wp_X3_numberBodyAnew_4 (Qm : Int → Mem → Prop) : Nat → Int → Int → Mem → Prop
  | 0 => fun _ _ _ => False
  | n + 1 => fun y1 y2 M => (((M 16 0 (-1)) ≤ y2 → Qm y1 M) ∧ (y2 < (M 16 0 (-1)) → (0 ≤ y2 ∧ y2 < M 16 0 (-1)) ∧ (inR (y1 + (if ¬ (M 6 (M 16 0 y2) 6) = y2 then (1 : Int) else 0))) ∧ (0 ≤ y2 ∧ y2 < M 16 0 (-1)) ∧ ∀ M11 : Mem, M11 = up M 6 (M 16 0 y2) 6 y2 → (inR (y2 + 1)) ∧ wp_X3_numberBodyAnew_4 Qm n (y1 + (if ¬ (M 6 (M 16 0 y2) 6) = y2 then (1 : Int) else 0)) (y2 + 1) M11))
def wp_X3_numberBodyAnew (M : Mem) (Qm : Int → Mem → Prop) : Prop := (∃ n14 : Nat, wp_X3_numberBodyAnew_4 Qm n14 0 0 M)
set_option maxHeartbeats 4000000 in
set_option maxRecDepth 100000 in
theorem t_X3_numberBodyAnew_4 (X : CX p m c cX3_numberBodyAnew 3 s args RX3 G B κ meth (some .int)) {Qm : Int → Mem → Prop} : ∀ n : Nat, ∀ y1 : Int, ∀ y2 : Int, ∀ M : Mem, wp_X3_numberBodyAnew_4 Qm n y1 y2 M → inR y1 → inR y2 → ∀ (H : Heap) (locs : List Loc), Rp G e0 α κ B M H → va_S (fun q => B ≤ q) s.heap H locs → ∀ (ls : Array Slot), lv_has ls 3 [(0, .ref (α 4 0)), (1, .int (Int32.ofInt y1)), (2, .int (Int32.ofInt y2))] → WI p l e 3 s m args below meth c G e0 α κ B Qm H locs 4 ls [] := by
  intro n
  induction n with
  | zero =>
    intro y1 y2 M hw hy1 hy2 H locs hR hS ls hl
    exact hw.elim
  | succ n ih =>
    intro y1 y2 M hw hy1 hy2 H locs hR hS ls hl
    have hw : (((M 16 0 (-1)) ≤ y2 → Qm y1 M) ∧ (y2 < (M 16 0 (-1)) → (0 ≤ y2 ∧ y2 < M 16 0 (-1)) ∧ (inR (y1 + (if ¬ (M 6 (M 16 0 y2) 6) = y2 then (1 : Int) else 0))) ∧ (0 ≤ y2 ∧ y2 < M 16 0 (-1)) ∧ ∀ M11 : Mem, M11 = up M 6 (M 16 0 y2) 6 y2 → (inR (y2 + 1)) ∧ wp_X3_numberBodyAnew_4 Qm n (y1 + (if ¬ (M 6 (M 16 0 y2) 6) = y2 then (1 : Int) else 0)) (y2 + 1) M11)) := hw
    refine lv_iload_n X.1.1 X.1.2.1 dX3_numberBodyAnew_4 rfl (lv_at hl 2 rfl) ?_
    refine lv_aload_n X.1.1 X.1.2.1 dX3_numberBodyAnew_5 rfl (lv_at hl 0 rfl) ?_
    refine gt_4_4 X hR (okf X.2.2.1 rfl) kw_124 dX3_numberBodyAnew_6 ?_
    refine ls_size (by decide) (by decide) X (kc := 3) rmL_ok rm_c (by decide) hR hS kw_441 hl.1 dX3_numberBodyAnew_9 (Nat.le_of_ble_eq_true rfl) (fun H locs hR hS => ?_)
    have r1 := hR.r 16 0 (-1)
    refine sa_icmp_ge (tgt := 62) X.1 hy2 r1 dX3_numberBodyAnew_12 (by decide) (fun hc => ?_) (fun hc => ?_)
    · have hw := hw.1 hc
      refine lv_iload_n X.1.1 X.1.2.1 dX3_numberBodyAnew_62 rfl (lv_at hl 1 rfl) ?_
      exact sa_iret X.1 X.2.2.2.1 X.2.2.2.2 hR hS hy1 hw dX3_numberBodyAnew_63
    · have hw := hw.2 hc
      refine lv_iload_n X.1.1 X.1.2.1 dX3_numberBodyAnew_15 rfl (lv_at hl 1 rfl) ?_
      refine lv_aload_n X.1.1 X.1.2.1 dX3_numberBodyAnew_16 rfl (lv_at hl 0 rfl) ?_
      refine gt_4_4 X hR (okf X.2.2.1 rfl) kw_124 dX3_numberBodyAnew_17 ?_
      refine lv_iload_n X.1.1 X.1.2.1 dX3_numberBodyAnew_20 rfl (lv_at hl 2 rfl) ?_
      have c2 := hw.1
      have hw := hw.2
      refine ls_get (ci := 6) (by decide) (by decide) rfl X c2 (kc := 3) rmL_ok rm_c (by decide) hR hS kw_442 hl.1 dX3_numberBodyAnew_21 (Nat.le_of_ble_eq_true rfl) (fun H locs o3 hR hS => ?_)
      refine ck_6 X hR o3 kw_580 dX3_numberBodyAnew_24 ?_
      refine gt_6_6 X hR o3 kw_905 dX3_numberBodyAnew_27 ?_
      have r4 := hR.r 6 (M 16 0 y2) 6
      refine lv_iload_n X.1.1 X.1.2.1 dX3_numberBodyAnew_30 rfl (lv_at hl 2 rfl) ?_
      have r5 := inR_ite (c := ¬ (M 6 (M 16 0 y2) 6) = y2) (inR_c (a := 1) rfl) (inR_c (a := 0) rfl)
      refine cut_j (A := ∀ v6 : Int, v6 = (if ¬ (M 6 (M 16 0 y2) 6) = y2 then (1 : Int) else 0) → WI p l e 3 s m args below meth c G e0 α κ B Qm H locs 39 ls [.int (Int32.ofInt v6), .int (Int32.ofInt y1)]) (fun J7 => ?_) ?_
      · refine sa_icmp_ne (tgt := 38) X.1 r4 hy2 dX3_numberBodyAnew_31 (by decide) (fun hc => ?_) (fun hc => ?_)
        · skip
          refine sa_const X.1 dX3_numberBodyAnew_38 ?_
          exact J7 (1) (if_pos (c := ¬ (M 6 (M 16 0 y2) 6) = y2) hc).symm
        · skip
          refine sa_const X.1 dX3_numberBodyAnew_34 ?_
          refine lv_goto (tgt := 39) X.1.1 X.1.2.1 dX3_numberBodyAnew_35 (by decide) ?_
          exact J7 (0) (if_neg (c := ¬ (M 6 (M 16 0 y2) 6) = y2) (fun z => z hc)).symm
      intro v6 hv6
      subst hv6
      have c8 := hw.1
      have hw := hw.2
      refine sa_iadd X.1 dX3_numberBodyAnew_39 ?_
      refine lv_istore_n (lv' := [(1, .int (Int32.ofInt (y1 + (if ¬ (M 6 (M 16 0 y2) 6) = y2 then (1 : Int) else 0)))), (0, .ref (α 4 0)), (2, .int (Int32.ofInt y2))]) X.1.1 X.1.2.1 dX3_numberBodyAnew_40 rfl hl (by decide) rfl (fun ls hl => ?_)
      refine lv_aload_n X.1.1 X.1.2.1 dX3_numberBodyAnew_41 rfl (lv_at hl 1 rfl) ?_
      refine gt_4_4 X hR (okf X.2.2.1 rfl) kw_124 dX3_numberBodyAnew_42 ?_
      refine lv_iload_n X.1.1 X.1.2.1 dX3_numberBodyAnew_45 rfl (lv_at hl 2 rfl) ?_
      have c9 := hw.1
      have hw := hw.2
      refine ls_get (ci := 6) (by decide) (by decide) rfl X c9 (kc := 3) rmL_ok rm_c (by decide) hR hS kw_442 hl.1 dX3_numberBodyAnew_46 (Nat.le_of_ble_eq_true rfl) (fun H locs o10 hR hS => ?_)
      refine ck_6 X hR o10 kw_580 dX3_numberBodyAnew_49 ?_
      refine lv_iload_n X.1.1 X.1.2.1 dX3_numberBodyAnew_52 rfl (lv_at hl 2 rfl) ?_
      refine pt_6_6 X hR hS o10 hy2 kw_905 dX3_numberBodyAnew_53 (fun H locs hR hS => ?_)
      obtain ⟨M11, e12⟩ : ∃ z : Mem, z = up M 6 (M 16 0 y2) 6 y2 := ⟨_, rfl⟩
      rw [← e12] at hR
      have hw := hw M11 e12
      have c13 := hw.1
      have hw := hw.2
      refine lv_iinc (v := Int32.ofInt (y2 + 1)) (lv' := [(2, .int (Int32.ofInt (y2 + 1))), (1, .int (Int32.ofInt (y1 + (if ¬ (M 6 (M 16 0 y2) 6) = y2 then (1 : Int) else 0)))), (0, .ref (α 4 0))]) X.1.1 X.1.2.1 dX3_numberBodyAnew_56 hl (k := 2) rfl (Int32.ofInt_add _ _).symm (by decide) rfl (fun ls hl => ?_)
      refine lv_goto (tgt := 4) X.1.1 X.1.2.1 dX3_numberBodyAnew_59 (by decide) ?_
      exact ih _ _ _ hw c8 c13 _ _ hR hS _ (lv_sub hl [2, 1, 0] rfl)
set_option maxHeartbeats 4000000 in
set_option maxRecDepth 100000 in
theorem t_X3_numberBodyAnew (X : CX p m c cX3_numberBodyAnew 3 s args RX3 G B κ meth (some .int)) {M : Mem} {Qm : Int → Mem → Prop} (hw : wp_X3_numberBodyAnew M Qm) (H : Heap) (locs : List Loc) (hR : Rp G e0 α κ B M H) (hS : va_S (fun q => B ≤ q) s.heap H locs) (ls : Array Slot) (hl : lv_has ls 3 [(0, .ref (α 4 0))]) : WI p l e 3 s m args below meth c G e0 α κ B Qm H locs 0 ls [] := by
  have hw : (∃ n14 : Nat, wp_X3_numberBodyAnew_4 Qm n14 0 0 M) := hw
  refine sa_const X.1 dX3_numberBodyAnew_0 ?_
  refine lv_istore_n (lv' := [(1, .int (Int32.ofInt 0)), (0, .ref (α 4 0))]) X.1.1 X.1.2.1 dX3_numberBodyAnew_1 rfl hl (by decide) rfl (fun ls hl => ?_)
  refine sa_const X.1 dX3_numberBodyAnew_2 ?_
  refine lv_istore_n (lv' := [(2, .int (Int32.ofInt 0)), (1, .int (Int32.ofInt 0)), (0, .ref (α 4 0))]) X.1.1 X.1.2.1 dX3_numberBodyAnew_3 rfl hl (by decide) rfl (fun ls hl => ?_)
  obtain ⟨n14, hw⟩ := hw
  exact t_X3_numberBodyAnew_4 X n14 _ _ _ hw (inR_c (a := 0) rfl) (inR_c (a := 0) rfl) _ _ hR hS _ (lv_sub hl [2, 1, 0] rfl)
theorem m_X3_numberBodyAnew {l : Launch} {G : Gx} {e0 : Nat} {α : Ax} {κ : Nat → Int} {B : Nat} (hκ : kOK κ) {M : Mem} {Qm : Int → Mem → Prop} (hw : wp_X3_numberBodyAnew M Qm) : CI l yX3_numberBodyAnew (Cond.code yX3_numberBodyAnew cX3_numberBodyAnew 3 (some .int)) 3 G e0 α κ B [.ref (α 4 0)] M Qm :=
  CI.mk hκ (by decide +kernel) rfl (Nat.le_of_ble_eq_true rfl) (lv := [(0, .ref (α 4 0))]) rfl (fun p e s m args below meth c ls X hR hS hl => t_X3_numberBodyAnew X hw _ _ hR hS ls hl)
theorem cs_X3_numberBodyAnew {cc : ByteArray} {nL : Nat} {own : String} {ret : Option FieldType} {idx pc : Nat} (X : CX p m c cc nL s args own G B κ meth ret) {kc : Nat} {R : Room} {cells slots : Nat} (hRr : RmOK R kc) (hcel : cells ≤ R.cells ∧ slots ≤ R.slots) (hk : 3 + 1 ≤ kc) {M : Mem} {H : Heap} {locs : List Loc} (hR : Rp G e0 α κ B M H) (hS : va_S (fun q => B ≤ q) s.heap H locs) (k1 : Cond.methodLink own idx yX3_numberBodyAnew ∈ gw) {ls : Array Slot} (hml : ls.size = nL) {rest : List Value} (hd : decode cc pc = .ok (.invokevirtual idx, 3)) (hrest : (rest.map fun v => v.category).sum ≤ 8) {Q : State → Prop} {Qm : Int → Mem → Prop} (hw : wp_X3_numberBodyAnew M Qm) (kk : ∀ (r : Int) (M1 : Mem) (H1 : Heap) (locs1 : List Loc), Qm r M1 → inR r → Rp G e0 α κ B M1 H1 → va_S (fun q => B ≤ q) s.heap H1 locs1 → W p l e R s m args below meth c H1 locs1 cells slots Q (F0 m (pc + 3) ls (.int (Int32.ofInt r) :: rest))) : W p l e R s m args below meth c H locs cells slots Q (F0 m pc ls (.ref (α 4 0) :: rest)) :=
  sa_callVI 3 (n := 0) (As := []) (rest := rest) X.1 X.2.1 hR hS (m_X3_numberBodyAnew X.2.2.1 hw) k1 kw_1159 kw_1160 kw_39 kw_1161 ⟨rfl, by decide +kernel, by decide +kernel, by decide +kernel⟩ (rm_ok hRr hk (by decide)) (rc_4 X hR (okf X.2.2.1 rfl)) rfl rfl hrest hml hd hcel kk
def wp_X3_hasBordered (p1 : Int) (p2 : Int) (M : Mem) (Qm : Int → Mem → Prop) : Prop := ((p1 = 0 → wp_X3_hasCell p2 M fun (x2 : Int) (M1 : Mem) => (bit x2) ∧ Qm x2 M1) ∧ (p1 = 1 → wp_X3_hasRow p2 M fun (x6 : Int) (M5 : Mem) => (bit x6) ∧ Qm x6 M5) ∧ (p1 = 2 → wp_X3_hasColumn p2 M fun (x10 : Int) (M9 : Mem) => (bit x10) ∧ Qm x10 M9) ∧ ((p1 < 0 ∨ 2 < p1) → Qm 1 M))
set_option maxHeartbeats 4000000 in
set_option maxRecDepth 100000 in
theorem t_X3_hasBordered {p1 : Int} {p2 : Int} (X : CX p m c cX3_hasBordered 3 s args RX3 G B κ meth (some .boolean)) (hp1 : inR p1) (hp2 : inR p2) {M : Mem} {Qm : Int → Mem → Prop} (hw : wp_X3_hasBordered p1 p2 M Qm) (H : Heap) (locs : List Loc) (hR : Rp G e0 α κ B M H) (hS : va_S (fun q => B ≤ q) s.heap H locs) (ls : Array Slot) (hl : lv_has ls 3 [(0, .ref (α 4 0)), (1, .int (Int32.ofInt p1)), (2, .int (Int32.ofInt p2))]) : WI p l e 2 s m args below meth c G e0 α κ B Qm H locs 0 ls [] := by
  have hw : ((p1 = 0 → wp_X3_hasCell p2 M fun (x2 : Int) (M1 : Mem) => (bit x2) ∧ Qm x2 M1) ∧ (p1 = 1 → wp_X3_hasRow p2 M fun (x6 : Int) (M5 : Mem) => (bit x6) ∧ Qm x6 M5) ∧ (p1 = 2 → wp_X3_hasColumn p2 M fun (x10 : Int) (M9 : Mem) => (bit x10) ∧ Qm x10 M9) ∧ ((p1 < 0 ∨ 2 < p1) → Qm 1 M)) := hw
  refine lv_iload_n X.1.1 X.1.2.1 dX3_hasBordered_0 rfl (lv_at hl 1 rfl) ?_
  rcases (show p1 = 0 ∨ p1 = 1 ∨ p1 = 2 ∨ (p1 < 0 ∨ 2 < p1) by omega) with hc | hc | hc | hc
  · have hw := hw.1 hc
    refine sa_tsw (tgt := 28) X.1 hp1 hc dX3_hasBordered_1 (by decide) (by decide) rfl (by decide) ?_
    refine lv_aload_n X.1.1 X.1.2.1 dX3_hasBordered_28 rfl (lv_at hl 0 rfl) ?_
    refine lv_iload_n X.1.1 X.1.2.1 dX3_hasBordered_29 rfl (lv_at hl 2 rfl) ?_
    refine cs_X3_hasCell X hp2 (kc := 2) rmL_ok rm_c (by decide) hR hS kw_1208 hl.1 dX3_hasBordered_30 (Nat.le_of_ble_eq_true rfl) hw (fun x2 M1 H locs hw r3 hR hS => ?_)
    have c4 := hw.1
    have hw := hw.2
    exact sa_zret X.1 X.2.2.2.1 X.2.2.2.2 hR hS c4 hw dX3_hasBordered_33
  · have hw := hw.2.1 hc
    refine sa_tsw (tgt := 34) X.1 hp1 hc dX3_hasBordered_1 (by decide) (by decide) rfl (by decide) ?_
    refine lv_aload_n X.1.1 X.1.2.1 dX3_hasBordered_34 rfl (lv_at hl 0 rfl) ?_
    refine lv_iload_n X.1.1 X.1.2.1 dX3_hasBordered_35 rfl (lv_at hl 2 rfl) ?_
    refine cs_X3_hasRow X hp2 (kc := 2) rmL_ok rm_c (by decide) hR hS kw_639 hl.1 dX3_hasBordered_36 (Nat.le_of_ble_eq_true rfl) hw (fun x6 M5 H locs hw r7 hR hS => ?_)
    have c8 := hw.1
    have hw := hw.2
    exact sa_zret X.1 X.2.2.2.1 X.2.2.2.2 hR hS c8 hw dX3_hasBordered_39
  · have hw := hw.2.2.1 hc
    refine sa_tsw (tgt := 40) X.1 hp1 hc dX3_hasBordered_1 (by decide) (by decide) rfl (by decide) ?_
    refine lv_aload_n X.1.1 X.1.2.1 dX3_hasBordered_40 rfl (lv_at hl 0 rfl) ?_
    refine lv_iload_n X.1.1 X.1.2.1 dX3_hasBordered_41 rfl (lv_at hl 2 rfl) ?_
    refine cs_X3_hasColumn X hp2 (kc := 2) rmL_ok rm_c (by decide) hR hS kw_1062 hl.1 dX3_hasBordered_42 (Nat.le_of_ble_eq_true rfl) hw (fun x10 M9 H locs hw r11 hR hS => ?_)
    have c12 := hw.1
    have hw := hw.2
    exact sa_zret X.1 X.2.2.2.1 X.2.2.2.2 hR hS c12 hw dX3_hasBordered_45
  · have hw := hw.2.2.2 hc
    refine sa_tswd (tgt := 46) X.1 hp1 hc dX3_hasBordered_1 (by decide) ?_
    refine sa_const X.1 dX3_hasBordered_46 ?_
    exact sa_zret X.1 X.2.2.2.1 X.2.2.2.2 hR hS (Or.inr rfl) hw dX3_hasBordered_47
theorem m_X3_hasBordered {l : Launch} {G : Gx} {e0 : Nat} {α : Ax} {κ : Nat → Int} {B : Nat} {p1 : Int} {p2 : Int} (hκ : kOK κ) (hp1 : inR p1) (hp2 : inR p2) {M : Mem} {Qm : Int → Mem → Prop} (hw : wp_X3_hasBordered p1 p2 M Qm) : CI l yX3_hasBordered (Cond.code yX3_hasBordered cX3_hasBordered 3 (some .boolean)) 2 G e0 α κ B [.ref (α 4 0), .int (Int32.ofInt p1), .int (Int32.ofInt p2)] M Qm :=
  CI.mk hκ (by decide +kernel) rfl (Nat.le_of_ble_eq_true rfl) (lv := [(0, .ref (α 4 0)), (1, .int (Int32.ofInt p1)), (2, .int (Int32.ofInt p2))]) rfl (fun p e s m args below meth c ls X hR hS hl => t_X3_hasBordered X hp1 hp2 hw _ _ hR hS ls hl)
theorem cs_X3_hasBordered {cc : ByteArray} {nL : Nat} {own : String} {ret : Option FieldType} {idx pc : Nat} {p1 : Int} {p2 : Int} (X : CX p m c cc nL s args own G B κ meth ret) (hp1 : inR p1) (hp2 : inR p2) {kc : Nat} {R : Room} {cells slots : Nat} (hRr : RmOK R kc) (hcel : cells ≤ R.cells ∧ slots ≤ R.slots) (hk : 2 + 1 ≤ kc) {M : Mem} {H : Heap} {locs : List Loc} (hR : Rp G e0 α κ B M H) (hS : va_S (fun q => B ≤ q) s.heap H locs) (k1 : Cond.methodLink own idx yX3_hasBordered ∈ gw) {ls : Array Slot} (hml : ls.size = nL) {rest : List Value} (hd : decode cc pc = .ok (.invokevirtual idx, 3)) (hrest : (rest.map fun v => v.category).sum ≤ 8) {Q : State → Prop} {Qm : Int → Mem → Prop} (hw : wp_X3_hasBordered p1 p2 M Qm) (kk : ∀ (r : Int) (M1 : Mem) (H1 : Heap) (locs1 : List Loc), Qm r M1 → inR r → Rp G e0 α κ B M1 H1 → va_S (fun q => B ≤ q) s.heap H1 locs1 → W p l e R s m args below meth c H1 locs1 cells slots Q (F0 m (pc + 3) ls (.int (Int32.ofInt r) :: rest))) : W p l e R s m args below meth c H locs cells slots Q (F0 m pc ls (.int (Int32.ofInt p2) :: .int (Int32.ofInt p1) :: .ref (α 4 0) :: rest)) :=
  sa_callVI 2 (n := 2) (As := [.int (Int32.ofInt p1), .int (Int32.ofInt p2)]) (rest := rest) X.1 X.2.1 hR hS (m_X3_hasBordered X.2.2.1 hp1 hp2 hw) k1 kw_1205 kw_1206 kw_39 kw_1207 ⟨rfl, by decide +kernel, by decide +kernel, by decide +kernel⟩ (rm_ok hRr hk (by decide)) (rc_4 X hR (okf X.2.2.1 rfl)) rfl rfl hrest hml hd hcel kk
def wp_X3_putWeight_9 (p1 : Int) (p2 : Int) (p3 : Int) (p4 : Int) (Qm : Mem → Prop) (M : Mem) : Prop := Qm M
def wp_X3_putWeight_108 (p1 : Int) (p2 : Int) (p3 : Int) (p4 : Int) (Qm : Mem → Prop) (M : Mem) : Prop := Qm M
def wp_X3_putWeight_77 (p1 : Int) (p2 : Int) (p3 : Int) (p4 : Int) (Qm : Mem → Prop) (M : Mem) : Prop := ((¬ p1 = 2 → wp_X3_putWeight_108 p1 p2 p3 p4 Qm M) ∧ (p1 = 2 → wp_X3_hasColumn p2 M fun (x2 : Int) (M1 : Mem) => ((x2 = 0 → wp_X3_putWeight_108 p1 p2 p3 p4 Qm M1) ∧ (¬ x2 = 0 → (0 ≤ p2 ∧ p2 < M1 12 0 (-1)) ∧ (0 ≤ p3 ∧ p3 < 4) ∧ ∀ M7 : Mem, M7 = up M1 27 (M1 12 0 p2) p3 p4 → wp_X3_putWeight_108 p1 p2 p3 p4 Qm M7))))
def wp_X3_putWeight_43 (p1 : Int) (p2 : Int) (p3 : Int) (p4 : Int) (Qm : Mem → Prop) (M : Mem) : Prop := ((¬ p1 = 1 → wp_X3_putWeight_77 p1 p2 p3 p4 Qm M) ∧ (p1 = 1 → wp_X3_hasRow p2 M fun (x10 : Int) (M9 : Mem) => ((x10 = 0 → wp_X3_putWeight_77 p1 p2 p3 p4 Qm M9) ∧ (¬ x10 = 0 → (0 ≤ p2 ∧ p2 < M9 13 0 (-1)) ∧ (0 ≤ p3 ∧ p3 < 4) ∧ ∀ M15 : Mem, M15 = up M9 36 (M9 13 0 p2) p3 p4 → wp_X3_putWeight_108 p1 p2 p3 p4 Qm M15))))
def wp_X3_putWeight (p1 : Int) (p2 : Int) (p3 : Int) (p4 : Int) (M : Mem) (Qm : Mem → Prop) : Prop := ((p3 < 0 → wp_X3_putWeight_9 p1 p2 p3 p4 Qm M) ∧ (0 ≤ p3 → ((p3 < 4 → ((¬ p1 = 0 → wp_X3_putWeight_43 p1 p2 p3 p4 Qm M) ∧ (p1 = 0 → wp_X3_hasCell p2 M fun (x18 : Int) (M17 : Mem) => ((x18 = 0 → wp_X3_putWeight_43 p1 p2 p3 p4 Qm M17) ∧ (¬ x18 = 0 → (0 ≤ p2 ∧ p2 < M17 14 0 (-1)) ∧ (0 ≤ p3 ∧ p3 < 4) ∧ ∀ M23 : Mem, M23 = up M17 24 (M17 14 0 p2) p3 p4 → wp_X3_putWeight_108 p1 p2 p3 p4 Qm M23))))) ∧ (4 ≤ p3 → wp_X3_putWeight_9 p1 p2 p3 p4 Qm M))))
set_option maxHeartbeats 4000000 in
set_option maxRecDepth 100000 in
theorem t_X3_putWeight_9 {p1 : Int} {p2 : Int} {p3 : Int} {p4 : Int} (X : CX p m c cX3_putWeight 5 s args RX3 G B κ meth none) (hp1 : inR p1) (hp2 : inR p2) (hp3 : inR p3) (hp4 : inR p4) {Qm : Mem → Prop} : ∀ M : Mem, wp_X3_putWeight_9 p1 p2 p3 p4 Qm M → ∀ (H : Heap) (locs : List Loc), Rp G e0 α κ B M H → va_S (fun q => B ≤ q) s.heap H locs → ∀ (ls : Array Slot), lv_has ls 5 [] → WV p l e 3 s m args below meth c G e0 α κ B Qm H locs 9 ls [] := by
  intro M hw H locs hR hS ls hl
  have hw : Qm M := hw
  exact sa_vret X.1 X.2.2.2.1 X.2.2.2.2 hR hS hw dX3_putWeight_9
set_option maxHeartbeats 4000000 in
set_option maxRecDepth 100000 in
theorem t_X3_putWeight_108 {p1 : Int} {p2 : Int} {p3 : Int} {p4 : Int} (X : CX p m c cX3_putWeight 5 s args RX3 G B κ meth none) (hp1 : inR p1) (hp2 : inR p2) (hp3 : inR p3) (hp4 : inR p4) {Qm : Mem → Prop} : ∀ M : Mem, wp_X3_putWeight_108 p1 p2 p3 p4 Qm M → ∀ (H : Heap) (locs : List Loc), Rp G e0 α κ B M H → va_S (fun q => B ≤ q) s.heap H locs → ∀ (ls : Array Slot), lv_has ls 5 [] → WV p l e 3 s m args below meth c G e0 α κ B Qm H locs 108 ls [] := by
  intro M hw H locs hR hS ls hl
  have hw : Qm M := hw
  exact sa_vret X.1 X.2.2.2.1 X.2.2.2.2 hR hS hw dX3_putWeight_108
set_option maxHeartbeats 4000000 in
set_option maxRecDepth 100000 in
theorem t_X3_putWeight_77 {p1 : Int} {p2 : Int} {p3 : Int} {p4 : Int} (X : CX p m c cX3_putWeight 5 s args RX3 G B κ meth none) (hp1 : inR p1) (hp2 : inR p2) (hp3 : inR p3) (hp4 : inR p4) {Qm : Mem → Prop} : ∀ M : Mem, wp_X3_putWeight_77 p1 p2 p3 p4 Qm M → ∀ (H : Heap) (locs : List Loc), Rp G e0 α κ B M H → va_S (fun q => B ≤ q) s.heap H locs → ∀ (ls : Array Slot), lv_has ls 5 [(0, .ref (α 4 0)), (1, .int (Int32.ofInt p1)), (2, .int (Int32.ofInt p2)), (3, .int (Int32.ofInt p3)), (4, .int (Int32.ofInt p4))] → WV p l e 3 s m args below meth c G e0 α κ B Qm H locs 77 ls [] := by
  intro M hw H locs hR hS ls hl
  have hw : ((¬ p1 = 2 → wp_X3_putWeight_108 p1 p2 p3 p4 Qm M) ∧ (p1 = 2 → wp_X3_hasColumn p2 M fun (x2 : Int) (M1 : Mem) => ((x2 = 0 → wp_X3_putWeight_108 p1 p2 p3 p4 Qm M1) ∧ (¬ x2 = 0 → (0 ≤ p2 ∧ p2 < M1 12 0 (-1)) ∧ (0 ≤ p3 ∧ p3 < 4) ∧ ∀ M7 : Mem, M7 = up M1 27 (M1 12 0 p2) p3 p4 → wp_X3_putWeight_108 p1 p2 p3 p4 Qm M7)))) := hw
  refine lv_iload_n X.1.1 X.1.2.1 dX3_putWeight_77 rfl (lv_at hl 1 rfl) ?_
  refine sa_const X.1 dX3_putWeight_78 ?_
  refine sa_icmp_ne (tgt := 108) X.1 hp1 (inR_c (a := 2) rfl) dX3_putWeight_79 (by decide) (fun hc => ?_) (fun hc => ?_)
  · have hw := hw.1 hc
    exact t_X3_putWeight_108 X hp1 hp2 hp3 hp4 _ hw _ _ hR hS _ (lv_sub hl [] rfl)
  · have hw := hw.2 hc
    refine lv_aload_n X.1.1 X.1.2.1 dX3_putWeight_82 rfl (lv_at hl 0 rfl) ?_
    refine lv_iload_n X.1.1 X.1.2.1 dX3_putWeight_83 rfl (lv_at hl 2 rfl) ?_
    refine cs_X3_hasColumn X hp2 (kc := 3) rmL_ok rm_c (by decide) hR hS kw_1062 hl.1 dX3_putWeight_84 (Nat.le_of_ble_eq_true rfl) hw (fun x2 M1 H locs hw r3 hR hS => ?_)
    refine sa_if_eq (tgt := 108) X.1 r3 dX3_putWeight_87 (by decide) (fun hc => ?_) (fun hc => ?_)
    · have hw := hw.1 hc
      exact t_X3_putWeight_108 X hp1 hp2 hp3 hp4 _ hw _ _ hR hS _ (lv_sub hl [] rfl)
    · have hw := hw.2 hc
      refine lv_aload_n X.1.1 X.1.2.1 dX3_putWeight_90 rfl (lv_at hl 0 rfl) ?_
      refine gt_4_0 X hR (okf X.2.2.1 rfl) kw_112 dX3_putWeight_91 ?_
      refine lv_iload_n X.1.1 X.1.2.1 dX3_putWeight_94 rfl (lv_at hl 2 rfl) ?_
      have c4 := hw.1
      have hw := hw.2
      refine ls_get (ci := 2) (by decide) (by decide) rfl X c4 (kc := 3) rmL_ok rm_c (by decide) hR hS kw_442 hl.1 dX3_putWeight_95 (Nat.le_of_ble_eq_true rfl) (fun H locs o5 hR hS => ?_)
      refine ck_2 X hR o5 kw_443 dX3_putWeight_98 ?_
      refine gt_2_2 X hR o5 kw_789 dX3_putWeight_101 ?_
      refine lv_iload_n X.1.1 X.1.2.1 dX3_putWeight_104 rfl (lv_at hl 3 rfl) ?_
      refine lv_iload X.1.1 X.1.2.1 dX3_putWeight_105 (lv_at hl 4 rfl) ?_
      have c6 := hw.1
      have hw := hw.2
      refine wa_27 X hR hS (ok3 X.2.2.1 rfl o5) c6 hp4 dX3_putWeight_107 (fun H locs hR hS => ?_)
      obtain ⟨M7, e8⟩ : ∃ z : Mem, z = up M1 27 (M1 12 0 p2) p3 p4 := ⟨_, rfl⟩
      rw [← e8] at hR
      have hw := hw M7 e8
      exact t_X3_putWeight_108 X hp1 hp2 hp3 hp4 _ hw _ _ hR hS _ (lv_sub hl [] rfl)
set_option maxHeartbeats 4000000 in
set_option maxRecDepth 100000 in
theorem t_X3_putWeight_43 {p1 : Int} {p2 : Int} {p3 : Int} {p4 : Int} (X : CX p m c cX3_putWeight 5 s args RX3 G B κ meth none) (hp1 : inR p1) (hp2 : inR p2) (hp3 : inR p3) (hp4 : inR p4) {Qm : Mem → Prop} : ∀ M : Mem, wp_X3_putWeight_43 p1 p2 p3 p4 Qm M → ∀ (H : Heap) (locs : List Loc), Rp G e0 α κ B M H → va_S (fun q => B ≤ q) s.heap H locs → ∀ (ls : Array Slot), lv_has ls 5 [(0, .ref (α 4 0)), (1, .int (Int32.ofInt p1)), (2, .int (Int32.ofInt p2)), (3, .int (Int32.ofInt p3)), (4, .int (Int32.ofInt p4))] → WV p l e 3 s m args below meth c G e0 α κ B Qm H locs 43 ls [] := by
  intro M hw H locs hR hS ls hl
  have hw : ((¬ p1 = 1 → wp_X3_putWeight_77 p1 p2 p3 p4 Qm M) ∧ (p1 = 1 → wp_X3_hasRow p2 M fun (x10 : Int) (M9 : Mem) => ((x10 = 0 → wp_X3_putWeight_77 p1 p2 p3 p4 Qm M9) ∧ (¬ x10 = 0 → (0 ≤ p2 ∧ p2 < M9 13 0 (-1)) ∧ (0 ≤ p3 ∧ p3 < 4) ∧ ∀ M15 : Mem, M15 = up M9 36 (M9 13 0 p2) p3 p4 → wp_X3_putWeight_108 p1 p2 p3 p4 Qm M15)))) := hw
  refine lv_iload_n X.1.1 X.1.2.1 dX3_putWeight_43 rfl (lv_at hl 1 rfl) ?_
  refine sa_const X.1 dX3_putWeight_44 ?_
  refine sa_icmp_ne (tgt := 77) X.1 hp1 (inR_c (a := 1) rfl) dX3_putWeight_45 (by decide) (fun hc => ?_) (fun hc => ?_)
  · have hw := hw.1 hc
    exact t_X3_putWeight_77 X hp1 hp2 hp3 hp4 _ hw _ _ hR hS _ (lv_sub hl [0, 1, 2, 3, 4] rfl)
  · have hw := hw.2 hc
    refine lv_aload_n X.1.1 X.1.2.1 dX3_putWeight_48 rfl (lv_at hl 0 rfl) ?_
    refine lv_iload_n X.1.1 X.1.2.1 dX3_putWeight_49 rfl (lv_at hl 2 rfl) ?_
    refine cs_X3_hasRow X hp2 (kc := 3) rmL_ok rm_c (by decide) hR hS kw_639 hl.1 dX3_putWeight_50 (Nat.le_of_ble_eq_true rfl) hw (fun x10 M9 H locs hw r11 hR hS => ?_)
    refine sa_if_eq (tgt := 77) X.1 r11 dX3_putWeight_53 (by decide) (fun hc => ?_) (fun hc => ?_)
    · have hw := hw.1 hc
      exact t_X3_putWeight_77 X hp1 hp2 hp3 hp4 _ hw _ _ hR hS _ (lv_sub hl [0, 1, 2, 3, 4] rfl)
    · have hw := hw.2 hc
      refine lv_aload_n X.1.1 X.1.2.1 dX3_putWeight_56 rfl (lv_at hl 0 rfl) ?_
      refine gt_4_1 X hR (okf X.2.2.1 rfl) kw_115 dX3_putWeight_57 ?_
      refine lv_iload_n X.1.1 X.1.2.1 dX3_putWeight_60 rfl (lv_at hl 2 rfl) ?_
      have c12 := hw.1
      have hw := hw.2
      refine ls_get (ci := 6) (by decide) (by decide) rfl X c12 (kc := 3) rmL_ok rm_c (by decide) hR hS kw_442 hl.1 dX3_putWeight_61 (Nat.le_of_ble_eq_true rfl) (fun H locs o13 hR hS => ?_)
      refine ck_6 X hR o13 kw_580 dX3_putWeight_64 ?_
      refine gt_6_4 X hR o13 kw_901 dX3_putWeight_67 ?_
      refine lv_iload_n X.1.1 X.1.2.1 dX3_putWeight_70 rfl (lv_at hl 3 rfl) ?_
      refine lv_iload X.1.1 X.1.2.1 dX3_putWeight_71 (lv_at hl 4 rfl) ?_
      have c14 := hw.1
      have hw := hw.2
      refine wa_36 X hR hS (ok4 X.2.2.1 rfl o13) c14 hp4 dX3_putWeight_73 (fun H locs hR hS => ?_)
      obtain ⟨M15, e16⟩ : ∃ z : Mem, z = up M9 36 (M9 13 0 p2) p3 p4 := ⟨_, rfl⟩
      rw [← e16] at hR
      have hw := hw M15 e16
      refine lv_goto (tgt := 108) X.1.1 X.1.2.1 dX3_putWeight_74 (by decide) ?_
      exact t_X3_putWeight_108 X hp1 hp2 hp3 hp4 _ hw _ _ hR hS _ (lv_sub hl [] rfl)
set_option maxHeartbeats 4000000 in
set_option maxRecDepth 100000 in
theorem t_X3_putWeight {p1 : Int} {p2 : Int} {p3 : Int} {p4 : Int} (X : CX p m c cX3_putWeight 5 s args RX3 G B κ meth none) (hp1 : inR p1) (hp2 : inR p2) (hp3 : inR p3) (hp4 : inR p4) {M : Mem} {Qm : Mem → Prop} (hw : wp_X3_putWeight p1 p2 p3 p4 M Qm) (H : Heap) (locs : List Loc) (hR : Rp G e0 α κ B M H) (hS : va_S (fun q => B ≤ q) s.heap H locs) (ls : Array Slot) (hl : lv_has ls 5 [(0, .ref (α 4 0)), (1, .int (Int32.ofInt p1)), (2, .int (Int32.ofInt p2)), (3, .int (Int32.ofInt p3)), (4, .int (Int32.ofInt p4))]) : WV p l e 3 s m args below meth c G e0 α κ B Qm H locs 0 ls [] := by
  have hw : ((p3 < 0 → wp_X3_putWeight_9 p1 p2 p3 p4 Qm M) ∧ (0 ≤ p3 → ((p3 < 4 → ((¬ p1 = 0 → wp_X3_putWeight_43 p1 p2 p3 p4 Qm M) ∧ (p1 = 0 → wp_X3_hasCell p2 M fun (x18 : Int) (M17 : Mem) => ((x18 = 0 → wp_X3_putWeight_43 p1 p2 p3 p4 Qm M17) ∧ (¬ x18 = 0 → (0 ≤ p2 ∧ p2 < M17 14 0 (-1)) ∧ (0 ≤ p3 ∧ p3 < 4) ∧ ∀ M23 : Mem, M23 = up M17 24 (M17 14 0 p2) p3 p4 → wp_X3_putWeight_108 p1 p2 p3 p4 Qm M23))))) ∧ (4 ≤ p3 → wp_X3_putWeight_9 p1 p2 p3 p4 Qm M)))) := hw
  refine lv_iload_n X.1.1 X.1.2.1 dX3_putWeight_0 rfl (lv_at hl 3 rfl) ?_
  refine sa_if_lt (tgt := 9) X.1 hp3 dX3_putWeight_1 (by decide) (fun hc => ?_) (fun hc => ?_)
  · have hw := hw.1 hc
    exact t_X3_putWeight_9 X hp1 hp2 hp3 hp4 _ hw _ _ hR hS _ (lv_sub hl [] rfl)
  · have hw := hw.2 hc
    refine lv_iload_n X.1.1 X.1.2.1 dX3_putWeight_4 rfl (lv_at hl 3 rfl) ?_
    refine sa_const X.1 dX3_putWeight_5 ?_
    refine sa_icmp_lt (tgt := 10) X.1 hp3 (inR_c (a := 4) rfl) dX3_putWeight_6 (by decide) (fun hc => ?_) (fun hc => ?_)
    · have hw := hw.1 hc
      refine lv_iload_n X.1.1 X.1.2.1 dX3_putWeight_10 rfl (lv_at hl 1 rfl) ?_
      refine sa_if_ne (tgt := 43) X.1 hp1 dX3_putWeight_11 (by decide) (fun hc => ?_) (fun hc => ?_)
      · have hw := hw.1 hc
        exact t_X3_putWeight_43 X hp1 hp2 hp3 hp4 _ hw _ _ hR hS _ (lv_sub hl [0, 1, 2, 3, 4] rfl)
      · have hw := hw.2 hc
        refine lv_aload_n X.1.1 X.1.2.1 dX3_putWeight_14 rfl (lv_at hl 0 rfl) ?_
        refine lv_iload_n X.1.1 X.1.2.1 dX3_putWeight_15 rfl (lv_at hl 2 rfl) ?_
        refine cs_X3_hasCell X hp2 (kc := 3) rmL_ok rm_c (by decide) hR hS kw_1208 hl.1 dX3_putWeight_16 (Nat.le_of_ble_eq_true rfl) hw (fun x18 M17 H locs hw r19 hR hS => ?_)
        refine sa_if_eq (tgt := 43) X.1 r19 dX3_putWeight_19 (by decide) (fun hc => ?_) (fun hc => ?_)
        · have hw := hw.1 hc
          exact t_X3_putWeight_43 X hp1 hp2 hp3 hp4 _ hw _ _ hR hS _ (lv_sub hl [0, 1, 2, 3, 4] rfl)
        · have hw := hw.2 hc
          refine lv_aload_n X.1.1 X.1.2.1 dX3_putWeight_22 rfl (lv_at hl 0 rfl) ?_
          refine gt_4_2 X hR (okf X.2.2.1 rfl) kw_118 dX3_putWeight_23 ?_
          refine lv_iload_n X.1.1 X.1.2.1 dX3_putWeight_26 rfl (lv_at hl 2 rfl) ?_
          have c20 := hw.1
          have hw := hw.2
          refine ls_get (ci := 1) (by decide) (by decide) rfl X c20 (kc := 3) rmL_ok rm_c (by decide) hR hS kw_442 hl.1 dX3_putWeight_27 (Nat.le_of_ble_eq_true rfl) (fun H locs o21 hR hS => ?_)
          refine ck_1 X hR o21 kw_653 dX3_putWeight_30 ?_
          refine gt_1_4 X hR o21 kw_1000 dX3_putWeight_33 ?_
          refine lv_iload_n X.1.1 X.1.2.1 dX3_putWeight_36 rfl (lv_at hl 3 rfl) ?_
          refine lv_iload X.1.1 X.1.2.1 dX3_putWeight_37 (lv_at hl 4 rfl) ?_
          have c22 := hw.1
          have hw := hw.2
          refine wa_24 X hR hS (ok2 X.2.2.1 rfl o21) c22 hp4 dX3_putWeight_39 (fun H locs hR hS => ?_)
          obtain ⟨M23, e24⟩ : ∃ z : Mem, z = up M17 24 (M17 14 0 p2) p3 p4 := ⟨_, rfl⟩
          rw [← e24] at hR
          have hw := hw M23 e24
          refine lv_goto (tgt := 108) X.1.1 X.1.2.1 dX3_putWeight_40 (by decide) ?_
          exact t_X3_putWeight_108 X hp1 hp2 hp3 hp4 _ hw _ _ hR hS _ (lv_sub hl [] rfl)
    · have hw := hw.2 hc
      exact t_X3_putWeight_9 X hp1 hp2 hp3 hp4 _ hw _ _ hR hS _ (lv_sub hl [] rfl)
theorem m_X3_putWeight {l : Launch} {G : Gx} {e0 : Nat} {α : Ax} {κ : Nat → Int} {B : Nat} {p1 : Int} {p2 : Int} {p3 : Int} {p4 : Int} (hκ : kOK κ) (hp1 : inR p1) (hp2 : inR p2) (hp3 : inR p3) (hp4 : inR p4) {M : Mem} {Qm : Mem → Prop} (hw : wp_X3_putWeight p1 p2 p3 p4 M Qm) : CV l yX3_putWeight (Cond.code yX3_putWeight cX3_putWeight 5 none) 3 G e0 α κ B [.ref (α 4 0), .int (Int32.ofInt p1), .int (Int32.ofInt p2), .int (Int32.ofInt p3), .int (Int32.ofInt p4)] M Qm :=
  CV.mk hκ (by decide +kernel) rfl (Nat.le_of_ble_eq_true rfl) (lv := [(0, .ref (α 4 0)), (1, .int (Int32.ofInt p1)), (2, .int (Int32.ofInt p2)), (3, .int (Int32.ofInt p3)), (4, .int (Int32.ofInt p4))]) rfl (fun p e s m args below meth c ls X hR hS hl => t_X3_putWeight X hp1 hp2 hp3 hp4 hw _ _ hR hS ls hl)
theorem cs_X3_putWeight {cc : ByteArray} {nL : Nat} {own : String} {ret : Option FieldType} {idx pc : Nat} {p1 : Int} {p2 : Int} {p3 : Int} {p4 : Int} (X : CX p m c cc nL s args own G B κ meth ret) (hp1 : inR p1) (hp2 : inR p2) (hp3 : inR p3) (hp4 : inR p4) {kc : Nat} {R : Room} {cells slots : Nat} (hRr : RmOK R kc) (hcel : cells ≤ R.cells ∧ slots ≤ R.slots) (hk : 3 + 1 ≤ kc) {M : Mem} {H : Heap} {locs : List Loc} (hR : Rp G e0 α κ B M H) (hS : va_S (fun q => B ≤ q) s.heap H locs) (k1 : Cond.methodLink own idx yX3_putWeight ∈ gw) {ls : Array Slot} (hml : ls.size = nL) {rest : List Value} (hd : decode cc pc = .ok (.invokevirtual idx, 3)) (hrest : (rest.map fun v => v.category).sum ≤ 8) {Q : State → Prop} {Qm : Mem → Prop} (hw : wp_X3_putWeight p1 p2 p3 p4 M Qm) (kk : ∀ (M1 : Mem) (H1 : Heap) (locs1 : List Loc), Qm M1 → Rp G e0 α κ B M1 H1 → va_S (fun q => B ≤ q) s.heap H1 locs1 → W p l e R s m args below meth c H1 locs1 cells slots Q (F0 m (pc + 3) ls (rest))) : W p l e R s m args below meth c H locs cells slots Q (F0 m pc ls (.int (Int32.ofInt p4) :: .int (Int32.ofInt p3) :: .int (Int32.ofInt p2) :: .int (Int32.ofInt p1) :: .ref (α 4 0) :: rest)) :=
  sa_callVV 3 (n := 4) (As := [.int (Int32.ofInt p1), .int (Int32.ofInt p2), .int (Int32.ofInt p3), .int (Int32.ofInt p4)]) (rest := rest) X.1 X.2.1 hR hS (m_X3_putWeight X.2.2.1 hp1 hp2 hp3 hp4 hw) k1 kw_1220 kw_32 kw_39 kw_1221 ⟨rfl, by decide +kernel, by decide +kernel, by decide +kernel⟩ (rm_ok hRr hk (by decide)) (rc_4 X hR (okf X.2.2.1 rfl)) rfl rfl hrest hml hd hcel kk
def wp_X3_weightOf_9 (p1 : Int) (p2 : Int) (p3 : Int) (Qm : Int → Mem → Prop) (M : Mem) : Prop := Qm 0 M
def wp_X3_weightOf_103 (p1 : Int) (p2 : Int) (p3 : Int) (Qm : Int → Mem → Prop) (z0 : Int) (M : Mem) : Prop := Qm z0 M
def wp_X3_weightOf_102 (p1 : Int) (p2 : Int) (p3 : Int) (Qm : Int → Mem → Prop) (M : Mem) : Prop := wp_X3_weightOf_103 p1 p2 p3 Qm 0 M
def wp_X3_weightOf_70 (p1 : Int) (p2 : Int) (p3 : Int) (Qm : Int → Mem → Prop) (M : Mem) : Prop := ((¬ p1 = 2 → wp_X3_weightOf_102 p1 p2 p3 Qm M) ∧ (p1 = 2 → wp_X3_hasColumn p2 M fun (x2 : Int) (M1 : Mem) => ((x2 = 0 → wp_X3_weightOf_102 p1 p2 p3 Qm M1) ∧ (¬ x2 = 0 → (0 ≤ p2 ∧ p2 < M1 12 0 (-1)) ∧ (0 ≤ p3 ∧ p3 < 4) ∧ wp_X3_weightOf_103 p1 p2 p3 Qm (M1 27 (M1 12 0 p2) p3) M1))))
def wp_X3_weightOf_40 (p1 : Int) (p2 : Int) (p3 : Int) (Qm : Int → Mem → Prop) (M : Mem) : Prop := ((¬ p1 = 1 → wp_X3_weightOf_70 p1 p2 p3 Qm M) ∧ (p1 = 1 → wp_X3_hasRow p2 M fun (x9 : Int) (M8 : Mem) => ((x9 = 0 → wp_X3_weightOf_70 p1 p2 p3 Qm M8) ∧ (¬ x9 = 0 → (0 ≤ p2 ∧ p2 < M8 13 0 (-1)) ∧ (0 ≤ p3 ∧ p3 < 4) ∧ Qm (M8 36 (M8 13 0 p2) p3) M8))))
def wp_X3_weightOf (p1 : Int) (p2 : Int) (p3 : Int) (M : Mem) (Qm : Int → Mem → Prop) : Prop := ((p3 < 0 → wp_X3_weightOf_9 p1 p2 p3 Qm M) ∧ (0 ≤ p3 → ((p3 < 4 → ((¬ p1 = 0 → wp_X3_weightOf_40 p1 p2 p3 Qm M) ∧ (p1 = 0 → wp_X3_hasCell p2 M fun (x16 : Int) (M15 : Mem) => ((x16 = 0 → wp_X3_weightOf_40 p1 p2 p3 Qm M15) ∧ (¬ x16 = 0 → (0 ≤ p2 ∧ p2 < M15 14 0 (-1)) ∧ (0 ≤ p3 ∧ p3 < 4) ∧ Qm (M15 24 (M15 14 0 p2) p3) M15))))) ∧ (4 ≤ p3 → wp_X3_weightOf_9 p1 p2 p3 Qm M))))
set_option maxHeartbeats 4000000 in
set_option maxRecDepth 100000 in
theorem t_X3_weightOf_9 {p1 : Int} {p2 : Int} {p3 : Int} (X : CX p m c cX3_weightOf 4 s args RX3 G B κ meth (some .int)) (hp1 : inR p1) (hp2 : inR p2) (hp3 : inR p3) {Qm : Int → Mem → Prop} : ∀ M : Mem, wp_X3_weightOf_9 p1 p2 p3 Qm M → ∀ (H : Heap) (locs : List Loc), Rp G e0 α κ B M H → va_S (fun q => B ≤ q) s.heap H locs → ∀ (ls : Array Slot), lv_has ls 4 [] → WI p l e 3 s m args below meth c G e0 α κ B Qm H locs 9 ls [] := by
  intro M hw H locs hR hS ls hl
  have hw : Qm 0 M := hw
  refine sa_const X.1 dX3_weightOf_9 ?_
  exact sa_iret X.1 X.2.2.2.1 X.2.2.2.2 hR hS (inR_c (a := 0) rfl) hw dX3_weightOf_10
set_option maxHeartbeats 4000000 in
set_option maxRecDepth 100000 in
theorem t_X3_weightOf_103 {p1 : Int} {p2 : Int} {p3 : Int} (X : CX p m c cX3_weightOf 4 s args RX3 G B κ meth (some .int)) (hp1 : inR p1) (hp2 : inR p2) (hp3 : inR p3) {Qm : Int → Mem → Prop} : ∀ z0 : Int, ∀ M : Mem, wp_X3_weightOf_103 p1 p2 p3 Qm z0 M → inR z0 → ∀ (H : Heap) (locs : List Loc), Rp G e0 α κ B M H → va_S (fun q => B ≤ q) s.heap H locs → ∀ (ls : Array Slot), lv_has ls 4 [] → WI p l e 3 s m args below meth c G e0 α κ B Qm H locs 103 ls [.int (Int32.ofInt z0)] := by
  intro z0 M hw hz0 H locs hR hS ls hl
  have hw : Qm z0 M := hw
  exact sa_iret X.1 X.2.2.2.1 X.2.2.2.2 hR hS hz0 hw dX3_weightOf_103
set_option maxHeartbeats 4000000 in
set_option maxRecDepth 100000 in
theorem t_X3_weightOf_102 {p1 : Int} {p2 : Int} {p3 : Int} (X : CX p m c cX3_weightOf 4 s args RX3 G B κ meth (some .int)) (hp1 : inR p1) (hp2 : inR p2) (hp3 : inR p3) {Qm : Int → Mem → Prop} : ∀ M : Mem, wp_X3_weightOf_102 p1 p2 p3 Qm M → ∀ (H : Heap) (locs : List Loc), Rp G e0 α κ B M H → va_S (fun q => B ≤ q) s.heap H locs → ∀ (ls : Array Slot), lv_has ls 4 [] → WI p l e 3 s m args below meth c G e0 α κ B Qm H locs 102 ls [] := by
  intro M hw H locs hR hS ls hl
  have hw : wp_X3_weightOf_103 p1 p2 p3 Qm 0 M := hw
  refine sa_const X.1 dX3_weightOf_102 ?_
  exact t_X3_weightOf_103 X hp1 hp2 hp3 _ _ hw (inR_c (a := 0) rfl) _ _ hR hS _ (lv_sub hl [] rfl)
set_option maxHeartbeats 4000000 in
set_option maxRecDepth 100000 in
theorem t_X3_weightOf_70 {p1 : Int} {p2 : Int} {p3 : Int} (X : CX p m c cX3_weightOf 4 s args RX3 G B κ meth (some .int)) (hp1 : inR p1) (hp2 : inR p2) (hp3 : inR p3) {Qm : Int → Mem → Prop} : ∀ M : Mem, wp_X3_weightOf_70 p1 p2 p3 Qm M → ∀ (H : Heap) (locs : List Loc), Rp G e0 α κ B M H → va_S (fun q => B ≤ q) s.heap H locs → ∀ (ls : Array Slot), lv_has ls 4 [(0, .ref (α 4 0)), (1, .int (Int32.ofInt p1)), (2, .int (Int32.ofInt p2)), (3, .int (Int32.ofInt p3))] → WI p l e 3 s m args below meth c G e0 α κ B Qm H locs 70 ls [] := by
  intro M hw H locs hR hS ls hl
  have hw : ((¬ p1 = 2 → wp_X3_weightOf_102 p1 p2 p3 Qm M) ∧ (p1 = 2 → wp_X3_hasColumn p2 M fun (x2 : Int) (M1 : Mem) => ((x2 = 0 → wp_X3_weightOf_102 p1 p2 p3 Qm M1) ∧ (¬ x2 = 0 → (0 ≤ p2 ∧ p2 < M1 12 0 (-1)) ∧ (0 ≤ p3 ∧ p3 < 4) ∧ wp_X3_weightOf_103 p1 p2 p3 Qm (M1 27 (M1 12 0 p2) p3) M1)))) := hw
  refine lv_iload_n X.1.1 X.1.2.1 dX3_weightOf_70 rfl (lv_at hl 1 rfl) ?_
  refine sa_const X.1 dX3_weightOf_71 ?_
  refine sa_icmp_ne (tgt := 102) X.1 hp1 (inR_c (a := 2) rfl) dX3_weightOf_72 (by decide) (fun hc => ?_) (fun hc => ?_)
  · have hw := hw.1 hc
    exact t_X3_weightOf_102 X hp1 hp2 hp3 _ hw _ _ hR hS _ (lv_sub hl [] rfl)
  · have hw := hw.2 hc
    refine lv_aload_n X.1.1 X.1.2.1 dX3_weightOf_75 rfl (lv_at hl 0 rfl) ?_
    refine lv_iload_n X.1.1 X.1.2.1 dX3_weightOf_76 rfl (lv_at hl 2 rfl) ?_
    refine cs_X3_hasColumn X hp2 (kc := 3) rmL_ok rm_c (by decide) hR hS kw_1062 hl.1 dX3_weightOf_77 (Nat.le_of_ble_eq_true rfl) hw (fun x2 M1 H locs hw r3 hR hS => ?_)
    refine sa_if_eq (tgt := 102) X.1 r3 dX3_weightOf_80 (by decide) (fun hc => ?_) (fun hc => ?_)
    · have hw := hw.1 hc
      exact t_X3_weightOf_102 X hp1 hp2 hp3 _ hw _ _ hR hS _ (lv_sub hl [] rfl)
    · have hw := hw.2 hc
      refine lv_aload_n X.1.1 X.1.2.1 dX3_weightOf_83 rfl (lv_at hl 0 rfl) ?_
      refine gt_4_0 X hR (okf X.2.2.1 rfl) kw_112 dX3_weightOf_84 ?_
      refine lv_iload_n X.1.1 X.1.2.1 dX3_weightOf_87 rfl (lv_at hl 2 rfl) ?_
      have c4 := hw.1
      have hw := hw.2
      refine ls_get (ci := 2) (by decide) (by decide) rfl X c4 (kc := 3) rmL_ok rm_c (by decide) hR hS kw_442 hl.1 dX3_weightOf_88 (Nat.le_of_ble_eq_true rfl) (fun H locs o5 hR hS => ?_)
      refine ck_2 X hR o5 kw_443 dX3_weightOf_91 ?_
      refine gt_2_2 X hR o5 kw_789 dX3_weightOf_94 ?_
      refine lv_iload_n X.1.1 X.1.2.1 dX3_weightOf_97 rfl (lv_at hl 3 rfl) ?_
      have c6 := hw.1
      have hw := hw.2
      refine ra_27 X hR (ok3 X.2.2.1 rfl o5) c6 dX3_weightOf_98 ?_
      have r7 := hR.r 27 (M1 12 0 p2) p3
      refine lv_goto (tgt := 103) X.1.1 X.1.2.1 dX3_weightOf_99 (by decide) ?_
      exact t_X3_weightOf_103 X hp1 hp2 hp3 _ _ hw r7 _ _ hR hS _ (lv_sub hl [] rfl)
set_option maxHeartbeats 4000000 in
set_option maxRecDepth 100000 in
theorem t_X3_weightOf_40 {p1 : Int} {p2 : Int} {p3 : Int} (X : CX p m c cX3_weightOf 4 s args RX3 G B κ meth (some .int)) (hp1 : inR p1) (hp2 : inR p2) (hp3 : inR p3) {Qm : Int → Mem → Prop} : ∀ M : Mem, wp_X3_weightOf_40 p1 p2 p3 Qm M → ∀ (H : Heap) (locs : List Loc), Rp G e0 α κ B M H → va_S (fun q => B ≤ q) s.heap H locs → ∀ (ls : Array Slot), lv_has ls 4 [(0, .ref (α 4 0)), (1, .int (Int32.ofInt p1)), (2, .int (Int32.ofInt p2)), (3, .int (Int32.ofInt p3))] → WI p l e 3 s m args below meth c G e0 α κ B Qm H locs 40 ls [] := by
  intro M hw H locs hR hS ls hl
  have hw : ((¬ p1 = 1 → wp_X3_weightOf_70 p1 p2 p3 Qm M) ∧ (p1 = 1 → wp_X3_hasRow p2 M fun (x9 : Int) (M8 : Mem) => ((x9 = 0 → wp_X3_weightOf_70 p1 p2 p3 Qm M8) ∧ (¬ x9 = 0 → (0 ≤ p2 ∧ p2 < M8 13 0 (-1)) ∧ (0 ≤ p3 ∧ p3 < 4) ∧ Qm (M8 36 (M8 13 0 p2) p3) M8)))) := hw
  refine lv_iload_n X.1.1 X.1.2.1 dX3_weightOf_40 rfl (lv_at hl 1 rfl) ?_
  refine sa_const X.1 dX3_weightOf_41 ?_
  refine sa_icmp_ne (tgt := 70) X.1 hp1 (inR_c (a := 1) rfl) dX3_weightOf_42 (by decide) (fun hc => ?_) (fun hc => ?_)
  · have hw := hw.1 hc
    exact t_X3_weightOf_70 X hp1 hp2 hp3 _ hw _ _ hR hS _ (lv_sub hl [0, 1, 2, 3] rfl)
  · have hw := hw.2 hc
    refine lv_aload_n X.1.1 X.1.2.1 dX3_weightOf_45 rfl (lv_at hl 0 rfl) ?_
    refine lv_iload_n X.1.1 X.1.2.1 dX3_weightOf_46 rfl (lv_at hl 2 rfl) ?_
    refine cs_X3_hasRow X hp2 (kc := 3) rmL_ok rm_c (by decide) hR hS kw_639 hl.1 dX3_weightOf_47 (Nat.le_of_ble_eq_true rfl) hw (fun x9 M8 H locs hw r10 hR hS => ?_)
    refine sa_if_eq (tgt := 70) X.1 r10 dX3_weightOf_50 (by decide) (fun hc => ?_) (fun hc => ?_)
    · have hw := hw.1 hc
      exact t_X3_weightOf_70 X hp1 hp2 hp3 _ hw _ _ hR hS _ (lv_sub hl [0, 1, 2, 3] rfl)
    · have hw := hw.2 hc
      refine lv_aload_n X.1.1 X.1.2.1 dX3_weightOf_53 rfl (lv_at hl 0 rfl) ?_
      refine gt_4_1 X hR (okf X.2.2.1 rfl) kw_115 dX3_weightOf_54 ?_
      refine lv_iload_n X.1.1 X.1.2.1 dX3_weightOf_57 rfl (lv_at hl 2 rfl) ?_
      have c11 := hw.1
      have hw := hw.2
      refine ls_get (ci := 6) (by decide) (by decide) rfl X c11 (kc := 3) rmL_ok rm_c (by decide) hR hS kw_442 hl.1 dX3_weightOf_58 (Nat.le_of_ble_eq_true rfl) (fun H locs o12 hR hS => ?_)
      refine ck_6 X hR o12 kw_580 dX3_weightOf_61 ?_
      refine gt_6_4 X hR o12 kw_901 dX3_weightOf_64 ?_
      refine lv_iload_n X.1.1 X.1.2.1 dX3_weightOf_67 rfl (lv_at hl 3 rfl) ?_
      have c13 := hw.1
      have hw := hw.2
      refine ra_36 X hR (ok4 X.2.2.1 rfl o12) c13 dX3_weightOf_68 ?_
      have r14 := hR.r 36 (M8 13 0 p2) p3
      exact sa_iret X.1 X.2.2.2.1 X.2.2.2.2 hR hS r14 hw dX3_weightOf_69
set_option maxHeartbeats 4000000 in
set_option maxRecDepth 100000 in
theorem t_X3_weightOf {p1 : Int} {p2 : Int} {p3 : Int} (X : CX p m c cX3_weightOf 4 s args RX3 G B κ meth (some .int)) (hp1 : inR p1) (hp2 : inR p2) (hp3 : inR p3) {M : Mem} {Qm : Int → Mem → Prop} (hw : wp_X3_weightOf p1 p2 p3 M Qm) (H : Heap) (locs : List Loc) (hR : Rp G e0 α κ B M H) (hS : va_S (fun q => B ≤ q) s.heap H locs) (ls : Array Slot) (hl : lv_has ls 4 [(0, .ref (α 4 0)), (1, .int (Int32.ofInt p1)), (2, .int (Int32.ofInt p2)), (3, .int (Int32.ofInt p3))]) : WI p l e 3 s m args below meth c G e0 α κ B Qm H locs 0 ls [] := by
  have hw : ((p3 < 0 → wp_X3_weightOf_9 p1 p2 p3 Qm M) ∧ (0 ≤ p3 → ((p3 < 4 → ((¬ p1 = 0 → wp_X3_weightOf_40 p1 p2 p3 Qm M) ∧ (p1 = 0 → wp_X3_hasCell p2 M fun (x16 : Int) (M15 : Mem) => ((x16 = 0 → wp_X3_weightOf_40 p1 p2 p3 Qm M15) ∧ (¬ x16 = 0 → (0 ≤ p2 ∧ p2 < M15 14 0 (-1)) ∧ (0 ≤ p3 ∧ p3 < 4) ∧ Qm (M15 24 (M15 14 0 p2) p3) M15))))) ∧ (4 ≤ p3 → wp_X3_weightOf_9 p1 p2 p3 Qm M)))) := hw
  refine lv_iload_n X.1.1 X.1.2.1 dX3_weightOf_0 rfl (lv_at hl 3 rfl) ?_
  refine sa_if_lt (tgt := 9) X.1 hp3 dX3_weightOf_1 (by decide) (fun hc => ?_) (fun hc => ?_)
  · have hw := hw.1 hc
    exact t_X3_weightOf_9 X hp1 hp2 hp3 _ hw _ _ hR hS _ (lv_sub hl [] rfl)
  · have hw := hw.2 hc
    refine lv_iload_n X.1.1 X.1.2.1 dX3_weightOf_4 rfl (lv_at hl 3 rfl) ?_
    refine sa_const X.1 dX3_weightOf_5 ?_
    refine sa_icmp_lt (tgt := 11) X.1 hp3 (inR_c (a := 4) rfl) dX3_weightOf_6 (by decide) (fun hc => ?_) (fun hc => ?_)
    · have hw := hw.1 hc
      refine lv_iload_n X.1.1 X.1.2.1 dX3_weightOf_11 rfl (lv_at hl 1 rfl) ?_
      refine sa_if_ne (tgt := 40) X.1 hp1 dX3_weightOf_12 (by decide) (fun hc => ?_) (fun hc => ?_)
      · have hw := hw.1 hc
        exact t_X3_weightOf_40 X hp1 hp2 hp3 _ hw _ _ hR hS _ (lv_sub hl [0, 1, 2, 3] rfl)
      · have hw := hw.2 hc
        refine lv_aload_n X.1.1 X.1.2.1 dX3_weightOf_15 rfl (lv_at hl 0 rfl) ?_
        refine lv_iload_n X.1.1 X.1.2.1 dX3_weightOf_16 rfl (lv_at hl 2 rfl) ?_
        refine cs_X3_hasCell X hp2 (kc := 3) rmL_ok rm_c (by decide) hR hS kw_1208 hl.1 dX3_weightOf_17 (Nat.le_of_ble_eq_true rfl) hw (fun x16 M15 H locs hw r17 hR hS => ?_)
        refine sa_if_eq (tgt := 40) X.1 r17 dX3_weightOf_20 (by decide) (fun hc => ?_) (fun hc => ?_)
        · have hw := hw.1 hc
          exact t_X3_weightOf_40 X hp1 hp2 hp3 _ hw _ _ hR hS _ (lv_sub hl [0, 1, 2, 3] rfl)
        · have hw := hw.2 hc
          refine lv_aload_n X.1.1 X.1.2.1 dX3_weightOf_23 rfl (lv_at hl 0 rfl) ?_
          refine gt_4_2 X hR (okf X.2.2.1 rfl) kw_118 dX3_weightOf_24 ?_
          refine lv_iload_n X.1.1 X.1.2.1 dX3_weightOf_27 rfl (lv_at hl 2 rfl) ?_
          have c18 := hw.1
          have hw := hw.2
          refine ls_get (ci := 1) (by decide) (by decide) rfl X c18 (kc := 3) rmL_ok rm_c (by decide) hR hS kw_442 hl.1 dX3_weightOf_28 (Nat.le_of_ble_eq_true rfl) (fun H locs o19 hR hS => ?_)
          refine ck_1 X hR o19 kw_653 dX3_weightOf_31 ?_
          refine gt_1_4 X hR o19 kw_1000 dX3_weightOf_34 ?_
          refine lv_iload_n X.1.1 X.1.2.1 dX3_weightOf_37 rfl (lv_at hl 3 rfl) ?_
          have c20 := hw.1
          have hw := hw.2
          refine ra_24 X hR (ok2 X.2.2.1 rfl o19) c20 dX3_weightOf_38 ?_
          have r21 := hR.r 24 (M15 14 0 p2) p3
          exact sa_iret X.1 X.2.2.2.1 X.2.2.2.2 hR hS r21 hw dX3_weightOf_39
    · have hw := hw.2 hc
      exact t_X3_weightOf_9 X hp1 hp2 hp3 _ hw _ _ hR hS _ (lv_sub hl [] rfl)
theorem m_X3_weightOf {l : Launch} {G : Gx} {e0 : Nat} {α : Ax} {κ : Nat → Int} {B : Nat} {p1 : Int} {p2 : Int} {p3 : Int} (hκ : kOK κ) (hp1 : inR p1) (hp2 : inR p2) (hp3 : inR p3) {M : Mem} {Qm : Int → Mem → Prop} (hw : wp_X3_weightOf p1 p2 p3 M Qm) : CI l yX3_weightOf (Cond.code yX3_weightOf cX3_weightOf 4 (some .int)) 3 G e0 α κ B [.ref (α 4 0), .int (Int32.ofInt p1), .int (Int32.ofInt p2), .int (Int32.ofInt p3)] M Qm :=
  CI.mk hκ (by decide +kernel) rfl (Nat.le_of_ble_eq_true rfl) (lv := [(0, .ref (α 4 0)), (1, .int (Int32.ofInt p1)), (2, .int (Int32.ofInt p2)), (3, .int (Int32.ofInt p3))]) rfl (fun p e s m args below meth c ls X hR hS hl => t_X3_weightOf X hp1 hp2 hp3 hw _ _ hR hS ls hl)
theorem cs_X3_weightOf {cc : ByteArray} {nL : Nat} {own : String} {ret : Option FieldType} {idx pc : Nat} {p1 : Int} {p2 : Int} {p3 : Int} (X : CX p m c cc nL s args own G B κ meth ret) (hp1 : inR p1) (hp2 : inR p2) (hp3 : inR p3) {kc : Nat} {R : Room} {cells slots : Nat} (hRr : RmOK R kc) (hcel : cells ≤ R.cells ∧ slots ≤ R.slots) (hk : 3 + 1 ≤ kc) {M : Mem} {H : Heap} {locs : List Loc} (hR : Rp G e0 α κ B M H) (hS : va_S (fun q => B ≤ q) s.heap H locs) (k1 : Cond.methodLink own idx yX3_weightOf ∈ gw) {ls : Array Slot} (hml : ls.size = nL) {rest : List Value} (hd : decode cc pc = .ok (.invokevirtual idx, 3)) (hrest : (rest.map fun v => v.category).sum ≤ 8) {Q : State → Prop} {Qm : Int → Mem → Prop} (hw : wp_X3_weightOf p1 p2 p3 M Qm) (kk : ∀ (r : Int) (M1 : Mem) (H1 : Heap) (locs1 : List Loc), Qm r M1 → inR r → Rp G e0 α κ B M1 H1 → va_S (fun q => B ≤ q) s.heap H1 locs1 → W p l e R s m args below meth c H1 locs1 cells slots Q (F0 m (pc + 3) ls (.int (Int32.ofInt r) :: rest))) : W p l e R s m args below meth c H locs cells slots Q (F0 m pc ls (.int (Int32.ofInt p3) :: .int (Int32.ofInt p2) :: .int (Int32.ofInt p1) :: .ref (α 4 0) :: rest)) :=
  sa_callVI 3 (n := 3) (As := [.int (Int32.ofInt p1), .int (Int32.ofInt p2), .int (Int32.ofInt p3)]) (rest := rest) X.1 X.2.1 hR hS (m_X3_weightOf X.2.2.1 hp1 hp2 hp3 hw) k1 kw_1216 kw_31 kw_39 kw_1217 ⟨rfl, by decide +kernel, by decide +kernel, by decide +kernel⟩ (rm_ok hRr hk (by decide)) (rc_4 X hR (okf X.2.2.1 rfl)) rfl rfl hrest hml hd hcel kk
def wp_X3_greaterWeight (p1 : Int) (p2 : Int) (p3 : Int) (p4 : Int) (M : Mem) (Qm : Int → Mem → Prop) : Prop := (inR (p4 + 2)) ∧ wp_X3_weightOf p1 p2 p4 M fun (x4 : Int) (M3 : Mem) => wp_X3_weightOf p1 p3 (Int.tmod (p4 + 2) 4) M3 fun (x7 : Int) (M6 : Mem) => Qm (max x4 x7) M6
set_option maxHeartbeats 4000000 in
set_option maxRecDepth 100000 in
theorem t_X3_greaterWeight {p1 : Int} {p2 : Int} {p3 : Int} {p4 : Int} (X : CX p m c cX3_greaterWeight 6 s args RX3 G B κ meth (some .int)) (hp1 : inR p1) (hp2 : inR p2) (hp3 : inR p3) (hp4 : inR p4) {M : Mem} {Qm : Int → Mem → Prop} (hw : wp_X3_greaterWeight p1 p2 p3 p4 M Qm) (H : Heap) (locs : List Loc) (hR : Rp G e0 α κ B M H) (hS : va_S (fun q => B ≤ q) s.heap H locs) (ls : Array Slot) (hl : lv_has ls 6 [(0, .ref (α 4 0)), (1, .int (Int32.ofInt p1)), (2, .int (Int32.ofInt p2)), (3, .int (Int32.ofInt p3)), (4, .int (Int32.ofInt p4))]) : WI p l e 4 s m args below meth c G e0 α κ B Qm H locs 0 ls [] := by
  have hw : (inR (p4 + 2)) ∧ wp_X3_weightOf p1 p2 p4 M fun (x4 : Int) (M3 : Mem) => wp_X3_weightOf p1 p3 (Int.tmod (p4 + 2) 4) M3 fun (x7 : Int) (M6 : Mem) => Qm (max x4 x7) M6 := hw
  refine lv_iload X.1.1 X.1.2.1 dX3_greaterWeight_0 (lv_at hl 4 rfl) ?_
  refine sa_const X.1 dX3_greaterWeight_2 ?_
  have c1 := hw.1
  have hw := hw.2
  refine sa_iadd X.1 dX3_greaterWeight_3 ?_
  refine sa_const X.1 dX3_greaterWeight_4 ?_
  have r2 := inR_tmod c1 (inR_c (a := 4) rfl) (by decide)
  refine sa_irem X.1 c1 (inR_c (a := 4) rfl) (Int.ne_of_gt (by decide)) dX3_greaterWeight_5 ?_
  refine lv_istore (lv' := [(5, .int (Int32.ofInt (Int.tmod (p4 + 2) 4))), (0, .ref (α 4 0)), (1, .int (Int32.ofInt p1)), (2, .int (Int32.ofInt p2)), (3, .int (Int32.ofInt p3)), (4, .int (Int32.ofInt p4))]) X.1.1 X.1.2.1 dX3_greaterWeight_6 hl (by decide) rfl (fun ls hl => ?_)
  refine lv_aload_n X.1.1 X.1.2.1 dX3_greaterWeight_8 rfl (lv_at hl 1 rfl) ?_
  refine lv_iload_n X.1.1 X.1.2.1 dX3_greaterWeight_9 rfl (lv_at hl 2 rfl) ?_
  refine lv_iload_n X.1.1 X.1.2.1 dX3_greaterWeight_10 rfl (lv_at hl 3 rfl) ?_
  refine lv_iload X.1.1 X.1.2.1 dX3_greaterWeight_11 (lv_at hl 5 rfl) ?_
  refine cs_X3_weightOf X hp1 hp2 hp4 (kc := 4) rmL_ok rm_c (by decide) hR hS kw_1214 hl.1 dX3_greaterWeight_13 (Nat.le_of_ble_eq_true rfl) hw (fun x4 M3 H locs hw r5 hR hS => ?_)
  refine lv_aload_n X.1.1 X.1.2.1 dX3_greaterWeight_16 rfl (lv_at hl 1 rfl) ?_
  refine lv_iload_n X.1.1 X.1.2.1 dX3_greaterWeight_17 rfl (lv_at hl 2 rfl) ?_
  refine lv_iload_n X.1.1 X.1.2.1 dX3_greaterWeight_18 rfl (lv_at hl 4 rfl) ?_
  refine lv_iload X.1.1 X.1.2.1 dX3_greaterWeight_19 (lv_at hl 0 rfl) ?_
  refine cs_X3_weightOf X hp1 hp3 r2 (kc := 4) rmL_ok rm_c (by decide) hR hS kw_1214 hl.1 dX3_greaterWeight_21 (Nat.le_of_ble_eq_true rfl) hw (fun x7 M6 H locs hw r8 hR hS => ?_)
  refine sa_max (R := rmL 4) X.1 r5 r8 hl.1 kw_470 kmath_max_s kmath_i kmath_max_c (by decide) (Nat.le_of_ble_eq_true rfl) rm_c dX3_greaterWeight_24 ?_
  exact sa_iret X.1 X.2.2.2.1 X.2.2.2.2 hR hS (inR_max r5 r8) hw dX3_greaterWeight_27
theorem m_X3_greaterWeight {l : Launch} {G : Gx} {e0 : Nat} {α : Ax} {κ : Nat → Int} {B : Nat} {p1 : Int} {p2 : Int} {p3 : Int} {p4 : Int} (hκ : kOK κ) (hp1 : inR p1) (hp2 : inR p2) (hp3 : inR p3) (hp4 : inR p4) {M : Mem} {Qm : Int → Mem → Prop} (hw : wp_X3_greaterWeight p1 p2 p3 p4 M Qm) : CI l yX3_greaterWeight (Cond.code yX3_greaterWeight cX3_greaterWeight 6 (some .int)) 4 G e0 α κ B [.ref (α 4 0), .int (Int32.ofInt p1), .int (Int32.ofInt p2), .int (Int32.ofInt p3), .int (Int32.ofInt p4)] M Qm :=
  CI.mk hκ (by decide +kernel) rfl (Nat.le_of_ble_eq_true rfl) (lv := [(0, .ref (α 4 0)), (1, .int (Int32.ofInt p1)), (2, .int (Int32.ofInt p2)), (3, .int (Int32.ofInt p3)), (4, .int (Int32.ofInt p4))]) rfl (fun p e s m args below meth c ls X hR hS hl => t_X3_greaterWeight X hp1 hp2 hp3 hp4 hw _ _ hR hS ls hl)
theorem cs_X3_greaterWeight {cc : ByteArray} {nL : Nat} {own : String} {ret : Option FieldType} {idx pc : Nat} {p1 : Int} {p2 : Int} {p3 : Int} {p4 : Int} (X : CX p m c cc nL s args own G B κ meth ret) (hp1 : inR p1) (hp2 : inR p2) (hp3 : inR p3) (hp4 : inR p4) {kc : Nat} {R : Room} {cells slots : Nat} (hRr : RmOK R kc) (hcel : cells ≤ R.cells ∧ slots ≤ R.slots) (hk : 4 + 1 ≤ kc) {M : Mem} {H : Heap} {locs : List Loc} (hR : Rp G e0 α κ B M H) (hS : va_S (fun q => B ≤ q) s.heap H locs) (k1 : Cond.methodLink own idx yX3_greaterWeight ∈ gw) {ls : Array Slot} (hml : ls.size = nL) {rest : List Value} (hd : decode cc pc = .ok (.invokevirtual idx, 3)) (hrest : (rest.map fun v => v.category).sum ≤ 8) {Q : State → Prop} {Qm : Int → Mem → Prop} (hw : wp_X3_greaterWeight p1 p2 p3 p4 M Qm) (kk : ∀ (r : Int) (M1 : Mem) (H1 : Heap) (locs1 : List Loc), Qm r M1 → inR r → Rp G e0 α κ B M1 H1 → va_S (fun q => B ≤ q) s.heap H1 locs1 → W p l e R s m args below meth c H1 locs1 cells slots Q (F0 m (pc + 3) ls (.int (Int32.ofInt r) :: rest))) : W p l e R s m args below meth c H locs cells slots Q (F0 m pc ls (.int (Int32.ofInt p4) :: .int (Int32.ofInt p3) :: .int (Int32.ofInt p2) :: .int (Int32.ofInt p1) :: .ref (α 4 0) :: rest)) :=
  sa_callVI 4 (n := 4) (As := [.int (Int32.ofInt p1), .int (Int32.ofInt p2), .int (Int32.ofInt p3), .int (Int32.ofInt p4)]) (rest := rest) X.1 X.2.1 hR hS (m_X3_greaterWeight X.2.2.1 hp1 hp2 hp3 hp4 hw) k1 kw_1428 kw_1429 kw_39 kw_1430 ⟨rfl, by decide +kernel, by decide +kernel, by decide +kernel⟩ (rm_ok hRr hk (by decide)) (rc_4 X hR (okf X.2.2.1 rfl)) rfl rfl hrest hml hd hcel kk
def wp_X3_rowStandingAt_35 (p1 : Int) (Qm : Int → Mem → Prop) (M : Mem) : Prop := Qm (-1) M
def wp_X3_rowStandingAt_91 (p1 : Int) (Qm : Int → Mem → Prop) (z0 : Int) (M : Mem) : Prop := Qm z0 M
def wp_X3_rowStandingAt (p1 : Int) (M : Mem) (Qm : Int → Mem → Prop) : Prop := (inR (p1 - (M 15 0 (-1)))) ∧ (inR ((p1 - (M 15 0 (-1))) - (M 16 0 (-1)))) ∧ ((p1 < 0 → wp_X3_rowStandingAt_35 p1 Qm M) ∧ (0 ≤ p1 → ((((p1 - (M 15 0 (-1))) - (M 16 0 (-1))) < (M 17 0 (-1)) → ((((p1 - (M 15 0 (-1))) - (M 16 0 (-1))) < 0 → (((p1 - (M 15 0 (-1))) < 0 → (0 ≤ p1 ∧ p1 < M 15 0 (-1)) ∧ wp_X3_rowStandingAt_91 p1 Qm (M 6 (M 15 0 p1) 0) M) ∧ (0 ≤ (p1 - (M 15 0 (-1))) → (0 ≤ (p1 - (M 15 0 (-1))) ∧ (p1 - (M 15 0 (-1))) < M 16 0 (-1)) ∧ wp_X3_rowStandingAt_91 p1 Qm (M 6 (M 16 0 (p1 - (M 15 0 (-1)))) 0) M))) ∧ (0 ≤ ((p1 - (M 15 0 (-1))) - (M 16 0 (-1))) → (0 ≤ ((p1 - (M 15 0 (-1))) - (M 16 0 (-1))) ∧ ((p1 - (M 15 0 (-1))) - (M 16 0 (-1))) < M 17 0 (-1)) ∧ Qm (M 6 (M 17 0 ((p1 - (M 15 0 (-1))) - (M 16 0 (-1)))) 0) M))) ∧ ((M 17 0 (-1)) ≤ ((p1 - (M 15 0 (-1))) - (M 16 0 (-1))) → wp_X3_rowStandingAt_35 p1 Qm M))))
set_option maxHeartbeats 4000000 in
set_option maxRecDepth 100000 in
theorem t_X3_rowStandingAt_35 {p1 : Int} (X : CX p m c cX3_rowStandingAt 4 s args RX3 G B κ meth (some .int)) (hp1 : inR p1) {Qm : Int → Mem → Prop} : ∀ M : Mem, wp_X3_rowStandingAt_35 p1 Qm M → ∀ (H : Heap) (locs : List Loc), Rp G e0 α κ B M H → va_S (fun q => B ≤ q) s.heap H locs → ∀ (ls : Array Slot), lv_has ls 4 [] → WI p l e 3 s m args below meth c G e0 α κ B Qm H locs 35 ls [] := by
  intro M hw H locs hR hS ls hl
  have hw : Qm (-1) M := hw
  refine sa_const X.1 dX3_rowStandingAt_35 ?_
  exact sa_iret X.1 X.2.2.2.1 X.2.2.2.2 hR hS (inR_c (a := -1) rfl) hw dX3_rowStandingAt_36
set_option maxHeartbeats 4000000 in
set_option maxRecDepth 100000 in
theorem t_X3_rowStandingAt_91 {p1 : Int} (X : CX p m c cX3_rowStandingAt 4 s args RX3 G B κ meth (some .int)) (hp1 : inR p1) {Qm : Int → Mem → Prop} : ∀ z0 : Int, ∀ M : Mem, wp_X3_rowStandingAt_91 p1 Qm z0 M → inR z0 → ∀ (H : Heap) (locs : List Loc), Rp G e0 α κ B M H → va_S (fun q => B ≤ q) s.heap H locs → ∀ (ls : Array Slot), lv_has ls 4 [] → WI p l e 3 s m args below meth c G e0 α κ B Qm H locs 91 ls [.int (Int32.ofInt z0)] := by
  intro z0 M hw hz0 H locs hR hS ls hl
  have hw : Qm z0 M := hw
  exact sa_iret X.1 X.2.2.2.1 X.2.2.2.2 hR hS hz0 hw dX3_rowStandingAt_91
set_option maxHeartbeats 4000000 in
set_option maxRecDepth 100000 in
theorem t_X3_rowStandingAt {p1 : Int} (X : CX p m c cX3_rowStandingAt 4 s args RX3 G B κ meth (some .int)) (hp1 : inR p1) {M : Mem} {Qm : Int → Mem → Prop} (hw : wp_X3_rowStandingAt p1 M Qm) (H : Heap) (locs : List Loc) (hR : Rp G e0 α κ B M H) (hS : va_S (fun q => B ≤ q) s.heap H locs) (ls : Array Slot) (hl : lv_has ls 4 [(0, .ref (α 4 0)), (1, .int (Int32.ofInt p1))]) : WI p l e 3 s m args below meth c G e0 α κ B Qm H locs 0 ls [] := by
  have hw : (inR (p1 - (M 15 0 (-1)))) ∧ (inR ((p1 - (M 15 0 (-1))) - (M 16 0 (-1)))) ∧ ((p1 < 0 → wp_X3_rowStandingAt_35 p1 Qm M) ∧ (0 ≤ p1 → ((((p1 - (M 15 0 (-1))) - (M 16 0 (-1))) < (M 17 0 (-1)) → ((((p1 - (M 15 0 (-1))) - (M 16 0 (-1))) < 0 → (((p1 - (M 15 0 (-1))) < 0 → (0 ≤ p1 ∧ p1 < M 15 0 (-1)) ∧ wp_X3_rowStandingAt_91 p1 Qm (M 6 (M 15 0 p1) 0) M) ∧ (0 ≤ (p1 - (M 15 0 (-1))) → (0 ≤ (p1 - (M 15 0 (-1))) ∧ (p1 - (M 15 0 (-1))) < M 16 0 (-1)) ∧ wp_X3_rowStandingAt_91 p1 Qm (M 6 (M 16 0 (p1 - (M 15 0 (-1)))) 0) M))) ∧ (0 ≤ ((p1 - (M 15 0 (-1))) - (M 16 0 (-1))) → (0 ≤ ((p1 - (M 15 0 (-1))) - (M 16 0 (-1))) ∧ ((p1 - (M 15 0 (-1))) - (M 16 0 (-1))) < M 17 0 (-1)) ∧ Qm (M 6 (M 17 0 ((p1 - (M 15 0 (-1))) - (M 16 0 (-1)))) 0) M))) ∧ ((M 17 0 (-1)) ≤ ((p1 - (M 15 0 (-1))) - (M 16 0 (-1))) → wp_X3_rowStandingAt_35 p1 Qm M)))) := hw
  refine lv_iload_n X.1.1 X.1.2.1 dX3_rowStandingAt_0 rfl (lv_at hl 1 rfl) ?_
  refine lv_aload_n X.1.1 X.1.2.1 dX3_rowStandingAt_1 rfl (lv_at hl 0 rfl) ?_
  refine gt_4_3 X hR (okf X.2.2.1 rfl) kw_123 dX3_rowStandingAt_2 ?_
  refine ls_size (by decide) (by decide) X (kc := 3) rmL_ok rm_c (by decide) hR hS kw_441 hl.1 dX3_rowStandingAt_5 (Nat.le_of_ble_eq_true rfl) (fun H locs hR hS => ?_)
  have r1 := hR.r 15 0 (-1)
  have c2 := hw.1
  have hw := hw.2
  refine sa_isub X.1 dX3_rowStandingAt_8 ?_
  refine lv_istore_n (lv' := [(2, .int (Int32.ofInt (p1 - (M 15 0 (-1))))), (0, .ref (α 4 0)), (1, .int (Int32.ofInt p1))]) X.1.1 X.1.2.1 dX3_rowStandingAt_9 rfl hl (by decide) rfl (fun ls hl => ?_)
  refine lv_iload_n X.1.1 X.1.2.1 dX3_rowStandingAt_10 rfl (lv_at hl 0 rfl) ?_
  refine lv_aload_n X.1.1 X.1.2.1 dX3_rowStandingAt_11 rfl (lv_at hl 1 rfl) ?_
  refine gt_4_4 X hR (okf X.2.2.1 rfl) kw_124 dX3_rowStandingAt_12 ?_
  refine ls_size (by decide) (by decide) X (kc := 3) rmL_ok rm_c (by decide) hR hS kw_441 hl.1 dX3_rowStandingAt_15 (Nat.le_of_ble_eq_true rfl) (fun H locs hR hS => ?_)
  have r3 := hR.r 16 0 (-1)
  have c4 := hw.1
  have hw := hw.2
  refine sa_isub X.1 dX3_rowStandingAt_18 ?_
  refine lv_istore_n (lv' := [(3, .int (Int32.ofInt ((p1 - (M 15 0 (-1))) - (M 16 0 (-1))))), (2, .int (Int32.ofInt (p1 - (M 15 0 (-1))))), (0, .ref (α 4 0)), (1, .int (Int32.ofInt p1))]) X.1.1 X.1.2.1 dX3_rowStandingAt_19 rfl hl (by decide) rfl (fun ls hl => ?_)
  refine lv_iload_n X.1.1 X.1.2.1 dX3_rowStandingAt_20 rfl (lv_at hl 3 rfl) ?_
  refine sa_if_lt (tgt := 35) X.1 hp1 dX3_rowStandingAt_21 (by decide) (fun hc => ?_) (fun hc => ?_)
  · have hw := hw.1 hc
    exact t_X3_rowStandingAt_35 X hp1 _ hw _ _ hR hS _ (lv_sub hl [] rfl)
  · have hw := hw.2 hc
    refine lv_iload_n X.1.1 X.1.2.1 dX3_rowStandingAt_24 rfl (lv_at hl 0 rfl) ?_
    refine lv_aload_n X.1.1 X.1.2.1 dX3_rowStandingAt_25 rfl (lv_at hl 2 rfl) ?_
    refine gt_4_5 X hR (okf X.2.2.1 rfl) kw_127 dX3_rowStandingAt_26 ?_
    refine ls_size (by decide) (by decide) X (kc := 3) rmL_ok rm_c (by decide) hR hS kw_441 hl.1 dX3_rowStandingAt_29 (Nat.le_of_ble_eq_true rfl) (fun H locs hR hS => ?_)
    have r5 := hR.r 17 0 (-1)
    refine sa_icmp_lt (tgt := 37) X.1 c4 r5 dX3_rowStandingAt_32 (by decide) (fun hc => ?_) (fun hc => ?_)
    · have hw := hw.1 hc
      refine lv_iload_n X.1.1 X.1.2.1 dX3_rowStandingAt_37 rfl (lv_at hl 0 rfl) ?_
      refine sa_if_lt (tgt := 56) X.1 c4 dX3_rowStandingAt_38 (by decide) (fun hc => ?_) (fun hc => ?_)
      · have hw := hw.1 hc
        refine lv_iload_n X.1.1 X.1.2.1 dX3_rowStandingAt_56 rfl (lv_at hl 1 rfl) ?_
        refine sa_if_lt (tgt := 77) X.1 c2 dX3_rowStandingAt_57 (by decide) (fun hc => ?_) (fun hc => ?_)
        · have hw := hw.1 hc
          refine lv_aload_n X.1.1 X.1.2.1 dX3_rowStandingAt_77 rfl (lv_at hl 2 rfl) ?_
          refine gt_4_3 X hR (okf X.2.2.1 rfl) kw_123 dX3_rowStandingAt_78 ?_
          refine lv_iload_n X.1.1 X.1.2.1 dX3_rowStandingAt_81 rfl (lv_at hl 3 rfl) ?_
          have c6 := hw.1
          have hw := hw.2
          refine ls_get (ci := 6) (by decide) (by decide) rfl X c6 (kc := 3) rmL_ok rm_c (by decide) hR hS kw_442 hl.1 dX3_rowStandingAt_82 (Nat.le_of_ble_eq_true rfl) (fun H locs o7 hR hS => ?_)
          refine ck_6 X hR o7 kw_580 dX3_rowStandingAt_85 ?_
          refine gt_6_0 X hR o7 kw_889 dX3_rowStandingAt_88 ?_
          have r8 := hR.r 6 (M 15 0 p1) 0
          exact t_X3_rowStandingAt_91 X hp1 _ _ hw r8 _ _ hR hS _ (lv_sub hl [] rfl)
        · have hw := hw.2 hc
          refine lv_aload_n X.1.1 X.1.2.1 dX3_rowStandingAt_60 rfl (lv_at hl 2 rfl) ?_
          refine gt_4_4 X hR (okf X.2.2.1 rfl) kw_124 dX3_rowStandingAt_61 ?_
          refine lv_iload_n X.1.1 X.1.2.1 dX3_rowStandingAt_64 rfl (lv_at hl 1 rfl) ?_
          have c9 := hw.1
          have hw := hw.2
          refine ls_get (ci := 6) (by decide) (by decide) rfl X c9 (kc := 3) rmL_ok rm_c (by decide) hR hS kw_442 hl.1 dX3_rowStandingAt_65 (Nat.le_of_ble_eq_true rfl) (fun H locs o10 hR hS => ?_)
          refine ck_6 X hR o10 kw_580 dX3_rowStandingAt_68 ?_
          refine gt_6_0 X hR o10 kw_889 dX3_rowStandingAt_71 ?_
          have r11 := hR.r 6 (M 16 0 (p1 - (M 15 0 (-1)))) 0
          refine lv_goto (tgt := 91) X.1.1 X.1.2.1 dX3_rowStandingAt_74 (by decide) ?_
          exact t_X3_rowStandingAt_91 X hp1 _ _ hw r11 _ _ hR hS _ (lv_sub hl [] rfl)
      · have hw := hw.2 hc
        refine lv_aload_n X.1.1 X.1.2.1 dX3_rowStandingAt_41 rfl (lv_at hl 2 rfl) ?_
        refine gt_4_5 X hR (okf X.2.2.1 rfl) kw_127 dX3_rowStandingAt_42 ?_
        refine lv_iload_n X.1.1 X.1.2.1 dX3_rowStandingAt_45 rfl (lv_at hl 0 rfl) ?_
        have c12 := hw.1
        have hw := hw.2
        refine ls_get (ci := 6) (by decide) (by decide) rfl X c12 (kc := 3) rmL_ok rm_c (by decide) hR hS kw_442 hl.1 dX3_rowStandingAt_46 (Nat.le_of_ble_eq_true rfl) (fun H locs o13 hR hS => ?_)
        refine ck_6 X hR o13 kw_580 dX3_rowStandingAt_49 ?_
        refine gt_6_0 X hR o13 kw_889 dX3_rowStandingAt_52 ?_
        have r14 := hR.r 6 (M 17 0 ((p1 - (M 15 0 (-1))) - (M 16 0 (-1)))) 0
        exact sa_iret X.1 X.2.2.2.1 X.2.2.2.2 hR hS r14 hw dX3_rowStandingAt_55
    · have hw := hw.2 hc
      exact t_X3_rowStandingAt_35 X hp1 _ hw _ _ hR hS _ (lv_sub hl [] rfl)
theorem m_X3_rowStandingAt {l : Launch} {G : Gx} {e0 : Nat} {α : Ax} {κ : Nat → Int} {B : Nat} {p1 : Int} (hκ : kOK κ) (hp1 : inR p1) {M : Mem} {Qm : Int → Mem → Prop} (hw : wp_X3_rowStandingAt p1 M Qm) : CI l yX3_rowStandingAt (Cond.code yX3_rowStandingAt cX3_rowStandingAt 4 (some .int)) 3 G e0 α κ B [.ref (α 4 0), .int (Int32.ofInt p1)] M Qm :=
  CI.mk hκ (by decide +kernel) rfl (Nat.le_of_ble_eq_true rfl) (lv := [(0, .ref (α 4 0)), (1, .int (Int32.ofInt p1))]) rfl (fun p e s m args below meth c ls X hR hS hl => t_X3_rowStandingAt X hp1 hw _ _ hR hS ls hl)
theorem cs_X3_rowStandingAt {cc : ByteArray} {nL : Nat} {own : String} {ret : Option FieldType} {idx pc : Nat} {p1 : Int} (X : CX p m c cc nL s args own G B κ meth ret) (hp1 : inR p1) {kc : Nat} {R : Room} {cells slots : Nat} (hRr : RmOK R kc) (hcel : cells ≤ R.cells ∧ slots ≤ R.slots) (hk : 3 + 1 ≤ kc) {M : Mem} {H : Heap} {locs : List Loc} (hR : Rp G e0 α κ B M H) (hS : va_S (fun q => B ≤ q) s.heap H locs) (k1 : Cond.methodLink own idx yX3_rowStandingAt ∈ gw) {ls : Array Slot} (hml : ls.size = nL) {rest : List Value} (hd : decode cc pc = .ok (.invokevirtual idx, 3)) (hrest : (rest.map fun v => v.category).sum ≤ 8) {Q : State → Prop} {Qm : Int → Mem → Prop} (hw : wp_X3_rowStandingAt p1 M Qm) (kk : ∀ (r : Int) (M1 : Mem) (H1 : Heap) (locs1 : List Loc), Qm r M1 → inR r → Rp G e0 α κ B M1 H1 → va_S (fun q => B ≤ q) s.heap H1 locs1 → W p l e R s m args below meth c H1 locs1 cells slots Q (F0 m (pc + 3) ls (.int (Int32.ofInt r) :: rest))) : W p l e R s m args below meth c H locs cells slots Q (F0 m pc ls (.int (Int32.ofInt p1) :: .ref (α 4 0) :: rest)) :=
  sa_callVI 3 (n := 1) (As := [.int (Int32.ofInt p1)]) (rest := rest) X.1 X.2.1 hR hS (m_X3_rowStandingAt X.2.2.1 hp1 hw) k1 kw_1421 kw_36 kw_39 kw_1422 ⟨rfl, by decide +kernel, by decide +kernel, by decide +kernel⟩ (rm_ok hRr hk (by decide)) (rc_4 X hR (okf X.2.2.1 rfl)) rfl rfl hrest hml hd hcel kk
def wp_X3_columnBeside_5 (p1 : Int) (p2 : Int) (Qm : Int → Mem → Prop) : Nat → Int → Int → Mem → Prop
  | 0 => fun _ _ _ => False
  | n + 1 => fun y3 y4 M => ((6 ≤ y4 → Qm (-1) M) ∧ (y4 < 6 → (inR (y3 + p2)) ∧ wp_X3_isShown (y3 + p2) M fun (x3 : Int) (M2 : Mem) => ((x3 = 0 → (inR (y4 + 1)) ∧ wp_X3_columnBeside_5 p1 p2 Qm n (y3 + p2) (y4 + 1) M2) ∧ (¬ x3 = 0 → Qm (y3 + p2) M2))))
def wp_X3_columnBeside (p1 : Int) (p2 : Int) (M : Mem) (Qm : Int → Mem → Prop) : Prop := (∃ n6 : Nat, wp_X3_columnBeside_5 p1 p2 Qm n6 p1 0 M)
set_option maxHeartbeats 4000000 in
set_option maxRecDepth 100000 in
theorem t_X3_columnBeside_5 {p1 : Int} {p2 : Int} (X : CX p m c cX3_columnBeside 5 s args RX3 G B κ meth (some .int)) (hp1 : inR p1) (hp2 : inR p2) {Qm : Int → Mem → Prop} : ∀ n : Nat, ∀ y3 : Int, ∀ y4 : Int, ∀ M : Mem, wp_X3_columnBeside_5 p1 p2 Qm n y3 y4 M → inR y3 → inR y4 → ∀ (H : Heap) (locs : List Loc), Rp G e0 α κ B M H → va_S (fun q => B ≤ q) s.heap H locs → ∀ (ls : Array Slot), lv_has ls 5 [(0, .ref (α 4 0)), (2, .int (Int32.ofInt p2)), (3, .int (Int32.ofInt y3)), (4, .int (Int32.ofInt y4))] → WI p l e 1 s m args below meth c G e0 α κ B Qm H locs 5 ls [] := by
  intro n
  induction n with
  | zero =>
    intro y3 y4 M hw hy3 hy4 H locs hR hS ls hl
    exact hw.elim
  | succ n ih =>
    intro y3 y4 M hw hy3 hy4 H locs hR hS ls hl
    have hw : ((6 ≤ y4 → Qm (-1) M) ∧ (y4 < 6 → (inR (y3 + p2)) ∧ wp_X3_isShown (y3 + p2) M fun (x3 : Int) (M2 : Mem) => ((x3 = 0 → (inR (y4 + 1)) ∧ wp_X3_columnBeside_5 p1 p2 Qm n (y3 + p2) (y4 + 1) M2) ∧ (¬ x3 = 0 → Qm (y3 + p2) M2)))) := hw
    refine lv_iload X.1.1 X.1.2.1 dX3_columnBeside_5 (lv_at hl 3 rfl) ?_
    refine sa_bipush X.1 dX3_columnBeside_7 (by decide) ?_
    refine sa_icmp_ge (tgt := 32) X.1 hy4 (inR_c (a := 6) rfl) dX3_columnBeside_9 (by decide) (fun hc => ?_) (fun hc => ?_)
    · have hw := hw.1 hc
      refine sa_const X.1 dX3_columnBeside_32 ?_
      exact sa_iret X.1 X.2.2.2.1 X.2.2.2.2 hR hS (inR_c (a := -1) rfl) hw dX3_columnBeside_33
    · have hw := hw.2 hc
      refine lv_iload_n X.1.1 X.1.2.1 dX3_columnBeside_12 rfl (lv_at hl 2 rfl) ?_
      refine lv_iload_n X.1.1 X.1.2.1 dX3_columnBeside_13 rfl (lv_at hl 1 rfl) ?_
      have c1 := hw.1
      have hw := hw.2
      refine sa_iadd X.1 dX3_columnBeside_14 ?_
      refine lv_istore_n (lv' := [(3, .int (Int32.ofInt (y3 + p2))), (0, .ref (α 4 0)), (2, .int (Int32.ofInt p2)), (4, .int (Int32.ofInt y4))]) X.1.1 X.1.2.1 dX3_columnBeside_15 rfl hl (by decide) rfl (fun ls hl => ?_)
      refine lv_aload_n X.1.1 X.1.2.1 dX3_columnBeside_16 rfl (lv_at hl 1 rfl) ?_
      refine lv_iload_n X.1.1 X.1.2.1 dX3_columnBeside_17 rfl (lv_at hl 0 rfl) ?_
      refine cs_X3_isShown X c1 (kc := 1) rmL_ok rm_c (by decide) hR hS kw_437 hl.1 dX3_columnBeside_18 (Nat.le_of_ble_eq_true rfl) hw (fun x3 M2 H locs hw r4 hR hS => ?_)
      refine sa_if_eq (tgt := 26) X.1 r4 dX3_columnBeside_21 (by decide) (fun hc => ?_) (fun hc => ?_)
      · have hw := hw.1 hc
        have c5 := hw.1
        have hw := hw.2
        refine lv_iinc (v := Int32.ofInt (y4 + 1)) (lv' := [(4, .int (Int32.ofInt (y4 + 1))), (3, .int (Int32.ofInt (y3 + p2))), (0, .ref (α 4 0)), (2, .int (Int32.ofInt p2))]) X.1.1 X.1.2.1 dX3_columnBeside_26 hl (k := 3) rfl (Int32.ofInt_add _ _).symm (by decide) rfl (fun ls hl => ?_)
        refine lv_goto (tgt := 5) X.1.1 X.1.2.1 dX3_columnBeside_29 (by decide) ?_
        exact ih _ _ _ hw c1 c5 _ _ hR hS _ (lv_sub hl [2, 3, 1, 0] rfl)
      · have hw := hw.2 hc
        refine lv_iload_n X.1.1 X.1.2.1 dX3_columnBeside_24 rfl (lv_at hl 0 rfl) ?_
        exact sa_iret X.1 X.2.2.2.1 X.2.2.2.2 hR hS c1 hw dX3_columnBeside_25
set_option maxHeartbeats 4000000 in
set_option maxRecDepth 100000 in
theorem t_X3_columnBeside {p1 : Int} {p2 : Int} (X : CX p m c cX3_columnBeside 5 s args RX3 G B κ meth (some .int)) (hp1 : inR p1) (hp2 : inR p2) {M : Mem} {Qm : Int → Mem → Prop} (hw : wp_X3_columnBeside p1 p2 M Qm) (H : Heap) (locs : List Loc) (hR : Rp G e0 α κ B M H) (hS : va_S (fun q => B ≤ q) s.heap H locs) (ls : Array Slot) (hl : lv_has ls 5 [(0, .ref (α 4 0)), (1, .int (Int32.ofInt p1)), (2, .int (Int32.ofInt p2))]) : WI p l e 1 s m args below meth c G e0 α κ B Qm H locs 0 ls [] := by
  have hw : (∃ n6 : Nat, wp_X3_columnBeside_5 p1 p2 Qm n6 p1 0 M) := hw
  refine lv_iload_n X.1.1 X.1.2.1 dX3_columnBeside_0 rfl (lv_at hl 1 rfl) ?_
  refine lv_istore_n (lv' := [(3, .int (Int32.ofInt p1)), (0, .ref (α 4 0)), (1, .int (Int32.ofInt p1)), (2, .int (Int32.ofInt p2))]) X.1.1 X.1.2.1 dX3_columnBeside_1 rfl hl (by decide) rfl (fun ls hl => ?_)
  refine sa_const X.1 dX3_columnBeside_2 ?_
  refine lv_istore (lv' := [(4, .int (Int32.ofInt 0)), (3, .int (Int32.ofInt p1)), (0, .ref (α 4 0)), (1, .int (Int32.ofInt p1)), (2, .int (Int32.ofInt p2))]) X.1.1 X.1.2.1 dX3_columnBeside_3 hl (by decide) rfl (fun ls hl => ?_)
  obtain ⟨n6, hw⟩ := hw
  exact t_X3_columnBeside_5 X hp1 hp2 n6 _ _ _ hw hp1 (inR_c (a := 0) rfl) _ _ hR hS _ (lv_sub hl [2, 4, 1, 0] rfl)
theorem m_X3_columnBeside {l : Launch} {G : Gx} {e0 : Nat} {α : Ax} {κ : Nat → Int} {B : Nat} {p1 : Int} {p2 : Int} (hκ : kOK κ) (hp1 : inR p1) (hp2 : inR p2) {M : Mem} {Qm : Int → Mem → Prop} (hw : wp_X3_columnBeside p1 p2 M Qm) : CI l yX3_columnBeside (Cond.code yX3_columnBeside cX3_columnBeside 5 (some .int)) 1 G e0 α κ B [.ref (α 4 0), .int (Int32.ofInt p1), .int (Int32.ofInt p2)] M Qm :=
  CI.mk hκ (by decide +kernel) rfl (Nat.le_of_ble_eq_true rfl) (lv := [(0, .ref (α 4 0)), (1, .int (Int32.ofInt p1)), (2, .int (Int32.ofInt p2))]) rfl (fun p e s m args below meth c ls X hR hS hl => t_X3_columnBeside X hp1 hp2 hw _ _ hR hS ls hl)
theorem cs_X3_columnBeside {cc : ByteArray} {nL : Nat} {own : String} {ret : Option FieldType} {idx pc : Nat} {p1 : Int} {p2 : Int} (X : CX p m c cc nL s args own G B κ meth ret) (hp1 : inR p1) (hp2 : inR p2) {kc : Nat} {R : Room} {cells slots : Nat} (hRr : RmOK R kc) (hcel : cells ≤ R.cells ∧ slots ≤ R.slots) (hk : 1 + 1 ≤ kc) {M : Mem} {H : Heap} {locs : List Loc} (hR : Rp G e0 α κ B M H) (hS : va_S (fun q => B ≤ q) s.heap H locs) (k1 : Cond.methodLink own idx yX3_columnBeside ∈ gw) {ls : Array Slot} (hml : ls.size = nL) {rest : List Value} (hd : decode cc pc = .ok (.invokevirtual idx, 3)) (hrest : (rest.map fun v => v.category).sum ≤ 8) {Q : State → Prop} {Qm : Int → Mem → Prop} (hw : wp_X3_columnBeside p1 p2 M Qm) (kk : ∀ (r : Int) (M1 : Mem) (H1 : Heap) (locs1 : List Loc), Qm r M1 → inR r → Rp G e0 α κ B M1 H1 → va_S (fun q => B ≤ q) s.heap H1 locs1 → W p l e R s m args below meth c H1 locs1 cells slots Q (F0 m (pc + 3) ls (.int (Int32.ofInt r) :: rest))) : W p l e R s m args below meth c H locs cells slots Q (F0 m pc ls (.int (Int32.ofInt p2) :: .int (Int32.ofInt p1) :: .ref (α 4 0) :: rest)) :=
  sa_callVI 1 (n := 2) (As := [.int (Int32.ofInt p1), .int (Int32.ofInt p2)]) (rest := rest) X.1 X.2.1 hR hS (m_X3_columnBeside X.2.2.1 hp1 hp2 hw) k1 kw_1424 kw_1425 kw_39 kw_1426 ⟨rfl, by decide +kernel, by decide +kernel, by decide +kernel⟩ (rm_ok hRr hk (by decide)) (rc_4 X hR (okf X.2.2.1 rfl)) rfl rfl hrest hml hd hcel kk
def wp_X4_lengthenLastRow_130 (u0 : Int) (u1 : Int) (p2 : Int) (Qm : Mem → Prop) (M : Mem) : Prop := Qm M
def wp_X4_lengthenLastRow_51 (u0 : Int) (u1 : Int) (p2 : Int) (Qm : Mem → Prop) : Nat → Nat → Int → Int → Int → Int → Mem → Prop
  | 0 => fun _ _ _ _ _ _ => False
  | n + 1 => fun q3 y4 y5 y6 y7 M => ((y4 ≤ y7 → ((y5 ≤ 0 → wp_X4_lengthenLastRow_130 u0 u1 p2 Qm M) ∧ (0 < y5 → ((y6 < 0 → wp_X4_lengthenLastRow_130 u0 u1 p2 Qm M) ∧ (0 ≤ y6 → ((29 ≤ y6 → wp_X4_lengthenLastRow_130 u0 u1 p2 Qm M) ∧ (y6 < 29 → (0 ≤ y6 ∧ y6 < 29) ∧ (inR ((M 35 u0 y6) + y5)) ∧ (0 ≤ y6 ∧ y6 < 29) ∧ ∀ M14 : Mem, M14 = up M 35 u0 y6 ((M 35 u0 y6) + y5) → wp_X4_lengthenLastRow_130 u0 u1 p2 Qm M14))))))) ∧ (y7 < y4 → (0 ≤ y7 ∧ y7 < M q3 0 (-1)) ∧ ((M 6 (M q3 0 y7) 0) < 29 → (0 ≤ (M 6 (M q3 0 y7) 0) ∧ (M 6 (M q3 0 y7) 0) < 29) ∧ True) ∧ (inR (y5 - (if 29 ≤ (M 6 (M q3 0 y7) 0) then (0 : Int) else (M 35 u0 (M 6 (M q3 0 y7) 0))))) ∧ (inR (y7 + 1)) ∧ wp_X4_lengthenLastRow_51 u0 u1 p2 Qm n q3 y4 (y5 - (if 29 ≤ (M 6 (M q3 0 y7) 0) then (0 : Int) else (M 35 u0 (M 6 (M q3 0 y7) 0)))) (M 6 (M q3 0 y7) 0) (y7 + 1) M))
def wp_X4_lengthenLastRow (u0 : Int) (u1 : Int) (p2 : Int) (M : Mem) (Qm : Mem → Prop) : Prop := (inR ((M 6 (M 1 u1 0) 6) + (M 1 u1 2))) ∧ (∃ n26 : Nat, wp_X4_lengthenLastRow_51 u0 u1 p2 Qm n26 (rowL (M 6 (M 1 u1 0) 1)) (min ((M 6 (M 1 u1 0) 6) + (M 1 u1 2)) (M (rowL (M 6 (M 1 u1 0) 1)) 0 (-1))) p2 (-1) (M 6 (M 1 u1 0) 6) M)
set_option maxHeartbeats 4000000 in
set_option maxRecDepth 100000 in
theorem t_X4_lengthenLastRow_130 {u0 : Int} {u1 : Int} {p2 : Int} (X : CX p m c cX4_lengthenLastRow 8 s args RX4 G B κ meth none) (hu0 : okk κ 5 u0) (hu1 : okk κ 1 u1) (hp2 : inR p2) {Qm : Mem → Prop} : ∀ M : Mem, wp_X4_lengthenLastRow_130 u0 u1 p2 Qm M → ∀ (H : Heap) (locs : List Loc), Rp G e0 α κ B M H → va_S (fun q => B ≤ q) s.heap H locs → ∀ (ls : Array Slot), lv_has ls 8 [] → WV p l e 3 s m args below meth c G e0 α κ B Qm H locs 130 ls [] := by
  intro M hw H locs hR hS ls hl
  have hw : Qm M := hw
  exact sa_vret X.1 X.2.2.2.1 X.2.2.2.2 hR hS hw dX4_lengthenLastRow_130
set_option maxHeartbeats 4000000 in
set_option maxRecDepth 100000 in
theorem t_X4_lengthenLastRow_51 {u0 : Int} {u1 : Int} {p2 : Int} (X : CX p m c cX4_lengthenLastRow 8 s args RX4 G B κ meth none) (hu0 : okk κ 5 u0) (hu1 : okk κ 1 u1) (hp2 : inR p2) {Qm : Mem → Prop} : ∀ n : Nat, ∀ q3 : Nat, ∀ y4 : Int, ∀ y5 : Int, ∀ y6 : Int, ∀ y7 : Int, ∀ M : Mem, wp_X4_lengthenLastRow_51 u0 u1 p2 Qm n q3 y4 y5 y6 y7 M → RLs q3 → inR y4 → inR y5 → inR y6 → inR y7 → ∀ (H : Heap) (locs : List Loc), Rp G e0 α κ B M H → va_S (fun q => B ≤ q) s.heap H locs → ∀ (ls : Array Slot), lv_has ls 8 [(0, .ref (α 5 u0)), (3, .ref (α q3 0)), (4, .int (Int32.ofInt y4)), (5, .int (Int32.ofInt y5)), (6, .int (Int32.ofInt y6)), (7, .int (Int32.ofInt y7))] → WV p l e 3 s m args below meth c G e0 α κ B Qm H locs 51 ls [] := by
  intro n
  induction n with
  | zero =>
    intro q3 y4 y5 y6 y7 M hw hq3 hy4 hy5 hy6 hy7 H locs hR hS ls hl
    exact hw.elim
  | succ n ih =>
    intro q3 y4 y5 y6 y7 M hw hq3 hy4 hy5 hy6 hy7 H locs hR hS ls hl
    have hw : ((y4 ≤ y7 → ((y5 ≤ 0 → wp_X4_lengthenLastRow_130 u0 u1 p2 Qm M) ∧ (0 < y5 → ((y6 < 0 → wp_X4_lengthenLastRow_130 u0 u1 p2 Qm M) ∧ (0 ≤ y6 → ((29 ≤ y6 → wp_X4_lengthenLastRow_130 u0 u1 p2 Qm M) ∧ (y6 < 29 → (0 ≤ y6 ∧ y6 < 29) ∧ (inR ((M 35 u0 y6) + y5)) ∧ (0 ≤ y6 ∧ y6 < 29) ∧ ∀ M14 : Mem, M14 = up M 35 u0 y6 ((M 35 u0 y6) + y5) → wp_X4_lengthenLastRow_130 u0 u1 p2 Qm M14))))))) ∧ (y7 < y4 → (0 ≤ y7 ∧ y7 < M q3 0 (-1)) ∧ ((M 6 (M q3 0 y7) 0) < 29 → (0 ≤ (M 6 (M q3 0 y7) 0) ∧ (M 6 (M q3 0 y7) 0) < 29) ∧ True) ∧ (inR (y5 - (if 29 ≤ (M 6 (M q3 0 y7) 0) then (0 : Int) else (M 35 u0 (M 6 (M q3 0 y7) 0))))) ∧ (inR (y7 + 1)) ∧ wp_X4_lengthenLastRow_51 u0 u1 p2 Qm n q3 y4 (y5 - (if 29 ≤ (M 6 (M q3 0 y7) 0) then (0 : Int) else (M 35 u0 (M 6 (M q3 0 y7) 0)))) (M 6 (M q3 0 y7) 0) (y7 + 1) M)) := hw
    refine lv_iload X.1.1 X.1.2.1 dX4_lengthenLastRow_51 (lv_at hl 5 rfl) ?_
    refine lv_iload X.1.1 X.1.2.1 dX4_lengthenLastRow_53 (lv_at hl 2 rfl) ?_
    refine sa_icmp_ge (tgt := 101) X.1 hy7 hy4 dX4_lengthenLastRow_55 (by decide) (fun hc => ?_) (fun hc => ?_)
    · have hw := hw.1 hc
      refine lv_iload X.1.1 X.1.2.1 dX4_lengthenLastRow_101 (lv_at hl 3 rfl) ?_
      refine sa_if_le (tgt := 130) X.1 hy5 dX4_lengthenLastRow_103 (by decide) (fun hc => ?_) (fun hc => ?_)
      · have hw := hw.1 hc
        exact t_X4_lengthenLastRow_130 X hu0 hu1 hp2 _ hw _ _ hR hS _ (lv_sub hl [] rfl)
      · have hw := hw.2 hc
        refine lv_iload X.1.1 X.1.2.1 dX4_lengthenLastRow_106 (lv_at hl 4 rfl) ?_
        refine sa_if_lt (tgt := 130) X.1 hy6 dX4_lengthenLastRow_108 (by decide) (fun hc => ?_) (fun hc => ?_)
        · have hw := hw.1 hc
          exact t_X4_lengthenLastRow_130 X hu0 hu1 hp2 _ hw _ _ hR hS _ (lv_sub hl [] rfl)
        · have hw := hw.2 hc
          refine lv_iload X.1.1 X.1.2.1 dX4_lengthenLastRow_111 (lv_at hl 4 rfl) ?_
          refine sa_bipush X.1 dX4_lengthenLastRow_113 (by decide) ?_
          refine sa_icmp_ge (tgt := 130) X.1 hy6 (inR_c (a := 29) rfl) dX4_lengthenLastRow_115 (by decide) (fun hc => ?_) (fun hc => ?_)
          · have hw := hw.1 hc
            exact t_X4_lengthenLastRow_130 X hu0 hu1 hp2 _ hw _ _ hR hS _ (lv_sub hl [] rfl)
          · have hw := hw.2 hc
            refine lv_aload_n X.1.1 X.1.2.1 dX4_lengthenLastRow_118 rfl (lv_at hl 0 rfl) ?_
            refine gt_5_2 X hR hu0 kw_194 dX4_lengthenLastRow_119 ?_
            refine lv_iload X.1.1 X.1.2.1 dX4_lengthenLastRow_122 (lv_at hl 4 rfl) ?_
            refine lv_dup2_11 X.1.1 X.1.2.1 dX4_lengthenLastRow_124 rfl rfl ?_
            have c10 := hw.1
            have hw := hw.2
            refine ra_35 X hR (okp X.2.2.1 rfl (pr_5 X.2.2.1 hu0)) c10 dX4_lengthenLastRow_125 ?_
            have r11 := hR.r 35 u0 y6
            refine lv_iload X.1.1 X.1.2.1 dX4_lengthenLastRow_126 (lv_at hl 3 rfl) ?_
            have c12 := hw.1
            have hw := hw.2
            refine sa_iadd X.1 dX4_lengthenLastRow_128 ?_
            have c13 := hw.1
            have hw := hw.2
            refine wa_35 X hR hS (okp X.2.2.1 rfl (pr_5 X.2.2.1 hu0)) c13 c12 dX4_lengthenLastRow_129 (fun H locs hR hS => ?_)
            obtain ⟨M14, e15⟩ : ∃ z : Mem, z = up M 35 u0 y6 ((M 35 u0 y6) + y5) := ⟨_, rfl⟩
            rw [← e15] at hR
            have hw := hw M14 e15
            exact t_X4_lengthenLastRow_130 X hu0 hu1 hp2 _ hw _ _ hR hS _ (lv_sub hl [] rfl)
    · have hw := hw.2 hc
      refine lv_aload_n X.1.1 X.1.2.1 dX4_lengthenLastRow_58 rfl (lv_at hl 1 rfl) ?_
      refine lv_iload X.1.1 X.1.2.1 dX4_lengthenLastRow_59 (lv_at hl 5 rfl) ?_
      have c16 := hw.1
      have hw := hw.2
      refine ls_get (ci := 6) (Nat.le_trans (by decide) hq3.1) hq3.2 (RLs.lcl hq3) X c16 (kc := 3) rmL_ok rm_c (by decide) hR hS kw_512 hl.1 dX4_lengthenLastRow_61 (Nat.le_of_ble_eq_true rfl) (fun H locs o17 hR hS => ?_)
      refine ck_6 X hR o17 kw_544 dX4_lengthenLastRow_64 ?_
      refine gt_6_0 X hR o17 kw_888 dX4_lengthenLastRow_67 ?_
      have r18 := hR.r 6 (M q3 0 y7) 0
      refine lv_istore (lv' := [(6, .int (Int32.ofInt (M 6 (M q3 0 y7) 0))), (0, .ref (α 5 u0)), (3, .ref (α q3 0)), (4, .int (Int32.ofInt y4)), (5, .int (Int32.ofInt y5)), (7, .int (Int32.ofInt y7))]) X.1.1 X.1.2.1 dX4_lengthenLastRow_70 hl (by decide) rfl (fun ls hl => ?_)
      refine lv_iload X.1.1 X.1.2.1 dX4_lengthenLastRow_72 (lv_at hl 4 rfl) ?_
      refine lv_iload X.1.1 X.1.2.1 dX4_lengthenLastRow_74 (lv_at hl 0 rfl) ?_
      refine sa_bipush X.1 dX4_lengthenLastRow_76 (by decide) ?_
      have s20 := hw.1
      have hw := hw.2
      have r21 := inR_ite (c := 29 ≤ (M 6 (M q3 0 y7) 0)) (inR_c (a := 0) rfl) (hR.r 35 u0 (M 6 (M q3 0 y7) 0))
      refine cut_j (A := ∀ v22 : Int, v22 = (if 29 ≤ (M 6 (M q3 0 y7) 0) then (0 : Int) else (M 35 u0 (M 6 (M q3 0 y7) 0))) → WV p l e 3 s m args below meth c G e0 α κ B Qm H locs 92 ls [.int (Int32.ofInt v22), .int (Int32.ofInt y5)]) (fun J23 => ?_) ?_
      · refine sa_icmp_ge (tgt := 91) X.1 r18 (inR_c (a := 29) rfl) dX4_lengthenLastRow_78 (by decide) (fun hc => ?_) (fun hc => ?_)
        · skip
          refine sa_const X.1 dX4_lengthenLastRow_91 ?_
          exact J23 (0) (if_pos (c := 29 ≤ (M 6 (M q3 0 y7) 0)) hc).symm
        · have hw := s20 hc
          refine lv_aload_n X.1.1 X.1.2.1 dX4_lengthenLastRow_81 rfl (lv_at hl 1 rfl) ?_
          refine gt_5_2 X hR hu0 kw_194 dX4_lengthenLastRow_82 ?_
          refine lv_iload X.1.1 X.1.2.1 dX4_lengthenLastRow_85 (lv_at hl 0 rfl) ?_
          have c19 := hw.1
          have hw := hw.2
          refine ra_35 X hR (okp X.2.2.1 rfl (pr_5 X.2.2.1 hu0)) c19 dX4_lengthenLastRow_87 ?_
          refine lv_goto (tgt := 92) X.1.1 X.1.2.1 dX4_lengthenLastRow_88 (by decide) ?_
          exact J23 ((M 35 u0 (M 6 (M q3 0 y7) 0))) (if_neg (c := 29 ≤ (M 6 (M q3 0 y7) 0)) (Int.not_le.mpr hc)).symm
      intro v22 hv22
      subst hv22
      have c24 := hw.1
      have hw := hw.2
      refine sa_isub X.1 dX4_lengthenLastRow_92 ?_
      refine lv_istore (lv' := [(5, .int (Int32.ofInt (y5 - (if 29 ≤ (M 6 (M q3 0 y7) 0) then (0 : Int) else (M 35 u0 (M 6 (M q3 0 y7) 0)))))), (6, .int (Int32.ofInt (M 6 (M q3 0 y7) 0))), (0, .ref (α 5 u0)), (3, .ref (α q3 0)), (4, .int (Int32.ofInt y4)), (7, .int (Int32.ofInt y7))]) X.1.1 X.1.2.1 dX4_lengthenLastRow_93 hl (by decide) rfl (fun ls hl => ?_)
      have c25 := hw.1
      have hw := hw.2
      refine lv_iinc (v := Int32.ofInt (y7 + 1)) (lv' := [(7, .int (Int32.ofInt (y7 + 1))), (5, .int (Int32.ofInt (y5 - (if 29 ≤ (M 6 (M q3 0 y7) 0) then (0 : Int) else (M 35 u0 (M 6 (M q3 0 y7) 0)))))), (6, .int (Int32.ofInt (M 6 (M q3 0 y7) 0))), (0, .ref (α 5 u0)), (3, .ref (α q3 0)), (4, .int (Int32.ofInt y4))]) X.1.1 X.1.2.1 dX4_lengthenLastRow_95 hl (k := 5) rfl (Int32.ofInt_add _ _).symm (by decide) rfl (fun ls hl => ?_)
      refine lv_goto (tgt := 51) X.1.1 X.1.2.1 dX4_lengthenLastRow_98 (by decide) ?_
      exact ih _ _ _ _ _ _ hw hq3 hy4 c24 r18 c25 _ _ hR hS _ (lv_sub hl [3, 4, 5, 1, 2, 0] rfl)
set_option maxHeartbeats 4000000 in
set_option maxRecDepth 100000 in
theorem t_X4_lengthenLastRow {u0 : Int} {u1 : Int} {p2 : Int} (X : CX p m c cX4_lengthenLastRow 8 s args RX4 G B κ meth none) (hu0 : okk κ 5 u0) (hu1 : okk κ 1 u1) (hp2 : inR p2) {M : Mem} {Qm : Mem → Prop} (hw : wp_X4_lengthenLastRow u0 u1 p2 M Qm) (H : Heap) (locs : List Loc) (hR : Rp G e0 α κ B M H) (hS : va_S (fun q => B ≤ q) s.heap H locs) (ls : Array Slot) (hl : lv_has ls 8 [(0, .ref (α 5 u0)), (1, .ref (α 1 u1)), (2, .int (Int32.ofInt p2))]) : WV p l e 3 s m args below meth c G e0 α κ B Qm H locs 0 ls [] := by
  have hw : (inR ((M 6 (M 1 u1 0) 6) + (M 1 u1 2))) ∧ (∃ n26 : Nat, wp_X4_lengthenLastRow_51 u0 u1 p2 Qm n26 (rowL (M 6 (M 1 u1 0) 1)) (min ((M 6 (M 1 u1 0) 6) + (M 1 u1 2)) (M (rowL (M 6 (M 1 u1 0) 1)) 0 (-1))) p2 (-1) (M 6 (M 1 u1 0) 6) M) := hw
  refine lv_aload_n X.1.1 X.1.2.1 dX4_lengthenLastRow_0 rfl (lv_at hl 0 rfl) ?_
  refine gt_5_0 X hR hu0 kw_191 dX4_lengthenLastRow_1 ?_
  refine lv_aload_n X.1.1 X.1.2.1 dX4_lengthenLastRow_4 rfl (lv_at hl 1 rfl) ?_
  refine gt_1_0 X hR hu1 kw_982 dX4_lengthenLastRow_5 ?_
  have o1 := hR.2.2.2.1 _ hu1
  refine gt_6_1 X hR o1 kw_892 dX4_lengthenLastRow_8 ?_
  have r2 := hR.r 6 (M 1 u1 0) 1
  refine cs_rowsOf X r2 (kc := 3) rmL_ok rm_c (by decide) hR hS kw_539 hl.1 dX4_lengthenLastRow_11 (Nat.le_of_ble_eq_true rfl) (fun H locs hR hS => ?_)
  refine lv_astore_n (lv' := [(3, .ref (α (rowL (M 6 (M 1 u1 0) 1)) 0)), (0, .ref (α 5 u0)), (1, .ref (α 1 u1)), (2, .int (Int32.ofInt p2))]) X.1.1 X.1.2.1 dX4_lengthenLastRow_14 rfl hl (by decide) rfl (fun ls hl => ?_)
  refine lv_aload_n X.1.1 X.1.2.1 dX4_lengthenLastRow_15 rfl (lv_at hl 2 rfl) ?_
  refine gt_1_0 X hR hu1 kw_982 dX4_lengthenLastRow_16 ?_
  have o3 := hR.2.2.2.1 _ hu1
  refine gt_6_6 X hR o3 kw_904 dX4_lengthenLastRow_19 ?_
  have r4 := hR.r 6 (M 1 u1 0) 6
  refine lv_aload_n X.1.1 X.1.2.1 dX4_lengthenLastRow_22 rfl (lv_at hl 2 rfl) ?_
  refine gt_1_2 X hR hu1 kw_992 dX4_lengthenLastRow_23 ?_
  have r5 := hR.r 1 u1 2
  have c6 := hw.1
  have hw := hw.2
  refine sa_iadd X.1 dX4_lengthenLastRow_26 ?_
  refine lv_aload_n X.1.1 X.1.2.1 dX4_lengthenLastRow_27 rfl (lv_at hl 0 rfl) ?_
  refine ls_size (Nat.le_trans (by decide) (rowL_ok (M 6 (M 1 u1 0) 1)).1) (rowL_ok (M 6 (M 1 u1 0) 1)).2 X (kc := 3) rmL_ok rm_c (by decide) hR hS kw_511 hl.1 dX4_lengthenLastRow_28 (Nat.le_of_ble_eq_true rfl) (fun H locs hR hS => ?_)
  have r7 := hR.r (rowL (M 6 (M 1 u1 0) 1)) 0 (-1)
  refine sa_min (R := rmL 3) X.1 c6 r7 kw_543 hl.1 kmath_min_s kmath_i kmath_min_c (by decide) (Nat.le_of_ble_eq_true rfl) rm_c dX4_lengthenLastRow_31 ?_
  refine lv_istore (lv' := [(4, .int (Int32.ofInt (min ((M 6 (M 1 u1 0) 6) + (M 1 u1 2)) (M (rowL (M 6 (M 1 u1 0) 1)) 0 (-1))))), (3, .ref (α (rowL (M 6 (M 1 u1 0) 1)) 0)), (0, .ref (α 5 u0)), (1, .ref (α 1 u1)), (2, .int (Int32.ofInt p2))]) X.1.1 X.1.2.1 dX4_lengthenLastRow_34 hl (by decide) rfl (fun ls hl => ?_)
  refine lv_iload_n X.1.1 X.1.2.1 dX4_lengthenLastRow_36 rfl (lv_at hl 4 rfl) ?_
  refine lv_istore (lv' := [(5, .int (Int32.ofInt p2)), (4, .int (Int32.ofInt (min ((M 6 (M 1 u1 0) 6) + (M 1 u1 2)) (M (rowL (M 6 (M 1 u1 0) 1)) 0 (-1))))), (3, .ref (α (rowL (M 6 (M 1 u1 0) 1)) 0)), (0, .ref (α 5 u0)), (1, .ref (α 1 u1)), (2, .int (Int32.ofInt p2))]) X.1.1 X.1.2.1 dX4_lengthenLastRow_37 hl (by decide) rfl (fun ls hl => ?_)
  refine sa_const X.1 dX4_lengthenLastRow_39 ?_
  refine lv_istore (lv' := [(6, .int (Int32.ofInt (-1))), (5, .int (Int32.ofInt p2)), (4, .int (Int32.ofInt (min ((M 6 (M 1 u1 0) 6) + (M 1 u1 2)) (M (rowL (M 6 (M 1 u1 0) 1)) 0 (-1))))), (3, .ref (α (rowL (M 6 (M 1 u1 0) 1)) 0)), (0, .ref (α 5 u0)), (1, .ref (α 1 u1)), (2, .int (Int32.ofInt p2))]) X.1.1 X.1.2.1 dX4_lengthenLastRow_40 hl (by decide) rfl (fun ls hl => ?_)
  refine lv_aload_n X.1.1 X.1.2.1 dX4_lengthenLastRow_42 rfl (lv_at hl 5 rfl) ?_
  refine gt_1_0 X hR hu1 kw_982 dX4_lengthenLastRow_43 ?_
  have o8 := hR.2.2.2.1 _ hu1
  refine gt_6_6 X hR o8 kw_904 dX4_lengthenLastRow_46 ?_
  have r9 := hR.r 6 (M 1 u1 0) 6
  refine lv_istore (lv' := [(7, .int (Int32.ofInt (M 6 (M 1 u1 0) 6))), (6, .int (Int32.ofInt (-1))), (5, .int (Int32.ofInt p2)), (4, .int (Int32.ofInt (min ((M 6 (M 1 u1 0) 6) + (M 1 u1 2)) (M (rowL (M 6 (M 1 u1 0) 1)) 0 (-1))))), (3, .ref (α (rowL (M 6 (M 1 u1 0) 1)) 0)), (0, .ref (α 5 u0)), (1, .ref (α 1 u1)), (2, .int (Int32.ofInt p2))]) X.1.1 X.1.2.1 dX4_lengthenLastRow_49 hl (by decide) rfl (fun ls hl => ?_)
  obtain ⟨n26, hw⟩ := hw
  exact t_X4_lengthenLastRow_51 X hu0 hu1 hp2 n26 _ _ _ _ _ _ hw (rowL_ok (M 6 (M 1 u1 0) 1)) (inR_min c6 r7) hp2 (inR_c (a := -1) rfl) r9 _ _ hR hS _ (lv_sub hl [5, 4, 3, 2, 1, 0] rfl)
theorem m_X4_lengthenLastRow {l : Launch} {G : Gx} {e0 : Nat} {α : Ax} {κ : Nat → Int} {B : Nat} {u0 : Int} {u1 : Int} {p2 : Int} (hκ : kOK κ) (hu0 : okk κ 5 u0) (hu1 : okk κ 1 u1) (hp2 : inR p2) {M : Mem} {Qm : Mem → Prop} (hw : wp_X4_lengthenLastRow u0 u1 p2 M Qm) : CV l yX4_lengthenLastRow (Cond.code yX4_lengthenLastRow cX4_lengthenLastRow 8 none) 3 G e0 α κ B [.ref (α 5 u0), .ref (α 1 u1), .int (Int32.ofInt p2)] M Qm :=
  CV.mk hκ (by decide +kernel) rfl (Nat.le_of_ble_eq_true rfl) (lv := [(0, .ref (α 5 u0)), (1, .ref (α 1 u1)), (2, .int (Int32.ofInt p2))]) rfl (fun p e s m args below meth c ls X hR hS hl => t_X4_lengthenLastRow X hu0 hu1 hp2 hw _ _ hR hS ls hl)
theorem cs_X4_lengthenLastRow {cc : ByteArray} {nL : Nat} {own : String} {ret : Option FieldType} {idx pc : Nat} {u0 : Int} {u1 : Int} {p2 : Int} (X : CX p m c cc nL s args own G B κ meth ret) (hu0 : okk κ 5 u0) (hu1 : okk κ 1 u1) (hp2 : inR p2) {kc : Nat} {R : Room} {cells slots : Nat} (hRr : RmOK R kc) (hcel : cells ≤ R.cells ∧ slots ≤ R.slots) (hk : 3 + 1 ≤ kc) {M : Mem} {H : Heap} {locs : List Loc} (hR : Rp G e0 α κ B M H) (hS : va_S (fun q => B ≤ q) s.heap H locs) (k1 : Cond.methodLink own idx yX4_lengthenLastRow ∈ gw) {ls : Array Slot} (hml : ls.size = nL) {rest : List Value} (hd : decode cc pc = .ok (.invokevirtual idx, 3)) (hrest : (rest.map fun v => v.category).sum ≤ 8) {Q : State → Prop} {Qm : Mem → Prop} (hw : wp_X4_lengthenLastRow u0 u1 p2 M Qm) (kk : ∀ (M1 : Mem) (H1 : Heap) (locs1 : List Loc), Qm M1 → Rp G e0 α κ B M1 H1 → va_S (fun q => B ≤ q) s.heap H1 locs1 → W p l e R s m args below meth c H1 locs1 cells slots Q (F0 m (pc + 3) ls (rest))) : W p l e R s m args below meth c H locs cells slots Q (F0 m pc ls (.int (Int32.ofInt p2) :: .ref (α 1 u1) :: .ref (α 5 u0) :: rest)) :=
  sa_callVV 3 (n := 2) (As := [.ref (α 1 u1), .int (Int32.ofInt p2)]) (rest := rest) X.1 X.2.1 hR hS (m_X4_lengthenLastRow X.2.2.1 hu0 hu1 hp2 hw) k1 kw_537 kw_12 kw_44 kw_538 ⟨rfl, by decide +kernel, by decide +kernel, by decide +kernel⟩ (rm_ok hRr hk (by decide)) (rc_5 X hR hu0) rfl rfl hrest hml hd hcel kk
def wp_X4_heightOfPart_14 (u0 : Int) (p1 : Int) (Qm : Int → Mem → Prop) : Nat → Nat → Int → Int → Mem → Prop
  | 0 => fun _ _ _ _ => False
  | n + 1 => fun q2 y3 y4 M => (((M q2 0 (-1)) ≤ y4 → Qm y3 M) ∧ (y4 < (M q2 0 (-1)) → (0 ≤ y4 ∧ y4 < M q2 0 (-1)) ∧ ((M 6 (M q2 0 y4) 0) < 29 → (0 ≤ (M 6 (M q2 0 y4) 0) ∧ (M 6 (M q2 0 y4) 0) < 29) ∧ True) ∧ (inR (y3 + (if 29 ≤ (M 6 (M q2 0 y4) 0) then (0 : Int) else (M 35 u0 (M 6 (M q2 0 y4) 0))))) ∧ (inR (y4 + 1)) ∧ wp_X4_heightOfPart_14 u0 p1 Qm n q2 (y3 + (if 29 ≤ (M 6 (M q2 0 y4) 0) then (0 : Int) else (M 35 u0 (M 6 (M q2 0 y4) 0)))) (y4 + 1) M))
def wp_X4_heightOfPart (u0 : Int) (p1 : Int) (M : Mem) (Qm : Int → Mem → Prop) : Prop := (∃ n12 : Nat, wp_X4_heightOfPart_14 u0 p1 Qm n12 (rowL p1) 0 0 M)
set_option maxHeartbeats 4000000 in
set_option maxRecDepth 100000 in
theorem t_X4_heightOfPart_14 {u0 : Int} {p1 : Int} (X : CX p m c cX4_heightOfPart 6 s args RX4 G B κ meth (some .int)) (hu0 : okk κ 5 u0) (hp1 : inR p1) {Qm : Int → Mem → Prop} : ∀ n : Nat, ∀ q2 : Nat, ∀ y3 : Int, ∀ y4 : Int, ∀ M : Mem, wp_X4_heightOfPart_14 u0 p1 Qm n q2 y3 y4 M → RLs q2 → inR y3 → inR y4 → ∀ (H : Heap) (locs : List Loc), Rp G e0 α κ B M H → va_S (fun q => B ≤ q) s.heap H locs → ∀ (ls : Array Slot), lv_has ls 6 [(0, .ref (α 5 u0)), (2, .ref (α q2 0)), (3, .int (Int32.ofInt y3)), (4, .int (Int32.ofInt y4))] → WI p l e 3 s m args below meth c G e0 α κ B Qm H locs 14 ls [] := by
  intro n
  induction n with
  | zero =>
    intro q2 y3 y4 M hw hq2 hy3 hy4 H locs hR hS ls hl
    exact hw.elim
  | succ n ih =>
    intro q2 y3 y4 M hw hq2 hy3 hy4 H locs hR hS ls hl
    have hw : (((M q2 0 (-1)) ≤ y4 → Qm y3 M) ∧ (y4 < (M q2 0 (-1)) → (0 ≤ y4 ∧ y4 < M q2 0 (-1)) ∧ ((M 6 (M q2 0 y4) 0) < 29 → (0 ≤ (M 6 (M q2 0 y4) 0) ∧ (M 6 (M q2 0 y4) 0) < 29) ∧ True) ∧ (inR (y3 + (if 29 ≤ (M 6 (M q2 0 y4) 0) then (0 : Int) else (M 35 u0 (M 6 (M q2 0 y4) 0))))) ∧ (inR (y4 + 1)) ∧ wp_X4_heightOfPart_14 u0 p1 Qm n q2 (y3 + (if 29 ≤ (M 6 (M q2 0 y4) 0) then (0 : Int) else (M 35 u0 (M 6 (M q2 0 y4) 0)))) (y4 + 1) M)) := hw
    refine lv_iload X.1.1 X.1.2.1 dX4_heightOfPart_14 (lv_at hl 3 rfl) ?_
    refine lv_aload_n X.1.1 X.1.2.1 dX4_heightOfPart_16 rfl (lv_at hl 1 rfl) ?_
    refine ls_size (Nat.le_trans (by decide) hq2.1) hq2.2 X (kc := 3) rmL_ok rm_c (by decide) hR hS kw_511 hl.1 dX4_heightOfPart_17 (Nat.le_of_ble_eq_true rfl) (fun H locs hR hS => ?_)
    have r1 := hR.r q2 0 (-1)
    refine sa_icmp_ge (tgt := 64) X.1 hy4 r1 dX4_heightOfPart_20 (by decide) (fun hc => ?_) (fun hc => ?_)
    · have hw := hw.1 hc
      refine lv_iload_n X.1.1 X.1.2.1 dX4_heightOfPart_64 rfl (lv_at hl 2 rfl) ?_
      exact sa_iret X.1 X.2.2.2.1 X.2.2.2.2 hR hS hy3 hw dX4_heightOfPart_65
    · have hw := hw.2 hc
      refine lv_aload_n X.1.1 X.1.2.1 dX4_heightOfPart_23 rfl (lv_at hl 1 rfl) ?_
      refine lv_iload X.1.1 X.1.2.1 dX4_heightOfPart_24 (lv_at hl 3 rfl) ?_
      have c2 := hw.1
      have hw := hw.2
      refine ls_get (ci := 6) (Nat.le_trans (by decide) hq2.1) hq2.2 (RLs.lcl hq2) X c2 (kc := 3) rmL_ok rm_c (by decide) hR hS kw_512 hl.1 dX4_heightOfPart_26 (Nat.le_of_ble_eq_true rfl) (fun H locs o3 hR hS => ?_)
      refine ck_6 X hR o3 kw_544 dX4_heightOfPart_29 ?_
      refine gt_6_0 X hR o3 kw_888 dX4_heightOfPart_32 ?_
      have r4 := hR.r 6 (M q2 0 y4) 0
      refine lv_istore (lv' := [(5, .int (Int32.ofInt (M 6 (M q2 0 y4) 0))), (0, .ref (α 5 u0)), (2, .ref (α q2 0)), (3, .int (Int32.ofInt y3)), (4, .int (Int32.ofInt y4))]) X.1.1 X.1.2.1 dX4_heightOfPart_35 hl (by decide) rfl (fun ls hl => ?_)
      refine lv_iload_n X.1.1 X.1.2.1 dX4_heightOfPart_37 rfl (lv_at hl 3 rfl) ?_
      refine lv_iload X.1.1 X.1.2.1 dX4_heightOfPart_38 (lv_at hl 0 rfl) ?_
      refine sa_bipush X.1 dX4_heightOfPart_40 (by decide) ?_
      have s6 := hw.1
      have hw := hw.2
      have r7 := inR_ite (c := 29 ≤ (M 6 (M q2 0 y4) 0)) (inR_c (a := 0) rfl) (hR.r 35 u0 (M 6 (M q2 0 y4) 0))
      refine cut_j (A := ∀ v8 : Int, v8 = (if 29 ≤ (M 6 (M q2 0 y4) 0) then (0 : Int) else (M 35 u0 (M 6 (M q2 0 y4) 0))) → WI p l e 3 s m args below meth c G e0 α κ B Qm H locs 56 ls [.int (Int32.ofInt v8), .int (Int32.ofInt y3)]) (fun J9 => ?_) ?_
      · refine sa_icmp_ge (tgt := 55) X.1 r4 (inR_c (a := 29) rfl) dX4_heightOfPart_42 (by decide) (fun hc => ?_) (fun hc => ?_)
        · skip
          refine sa_const X.1 dX4_heightOfPart_55 ?_
          exact J9 (0) (if_pos (c := 29 ≤ (M 6 (M q2 0 y4) 0)) hc).symm
        · have hw := s6 hc
          refine lv_aload_n X.1.1 X.1.2.1 dX4_heightOfPart_45 rfl (lv_at hl 1 rfl) ?_
          refine gt_5_2 X hR hu0 kw_194 dX4_heightOfPart_46 ?_
          refine lv_iload X.1.1 X.1.2.1 dX4_heightOfPart_49 (lv_at hl 0 rfl) ?_
          have c5 := hw.1
          have hw := hw.2
          refine ra_35 X hR (okp X.2.2.1 rfl (pr_5 X.2.2.1 hu0)) c5 dX4_heightOfPart_51 ?_
          refine lv_goto (tgt := 56) X.1.1 X.1.2.1 dX4_heightOfPart_52 (by decide) ?_
          exact J9 ((M 35 u0 (M 6 (M q2 0 y4) 0))) (if_neg (c := 29 ≤ (M 6 (M q2 0 y4) 0)) (Int.not_le.mpr hc)).symm
      intro v8 hv8
      subst hv8
      have c10 := hw.1
      have hw := hw.2
      refine sa_iadd X.1 dX4_heightOfPart_56 ?_
      refine lv_istore_n (lv' := [(3, .int (Int32.ofInt (y3 + (if 29 ≤ (M 6 (M q2 0 y4) 0) then (0 : Int) else (M 35 u0 (M 6 (M q2 0 y4) 0)))))), (5, .int (Int32.ofInt (M 6 (M q2 0 y4) 0))), (0, .ref (α 5 u0)), (2, .ref (α q2 0)), (4, .int (Int32.ofInt y4))]) X.1.1 X.1.2.1 dX4_heightOfPart_57 rfl hl (by decide) rfl (fun ls hl => ?_)
      have c11 := hw.1
      have hw := hw.2
      refine lv_iinc (v := Int32.ofInt (y4 + 1)) (lv' := [(4, .int (Int32.ofInt (y4 + 1))), (3, .int (Int32.ofInt (y3 + (if 29 ≤ (M 6 (M q2 0 y4) 0) then (0 : Int) else (M 35 u0 (M 6 (M q2 0 y4) 0)))))), (5, .int (Int32.ofInt (M 6 (M q2 0 y4) 0))), (0, .ref (α 5 u0)), (2, .ref (α q2 0))]) X.1.1 X.1.2.1 dX4_heightOfPart_58 hl (k := 4) rfl (Int32.ofInt_add _ _).symm (by decide) rfl (fun ls hl => ?_)
      refine lv_goto (tgt := 14) X.1.1 X.1.2.1 dX4_heightOfPart_61 (by decide) ?_
      exact ih _ _ _ _ hw hq2 c10 c11 _ _ hR hS _ (lv_sub hl [3, 4, 1, 0] rfl)
set_option maxHeartbeats 4000000 in
set_option maxRecDepth 100000 in
theorem t_X4_heightOfPart {u0 : Int} {p1 : Int} (X : CX p m c cX4_heightOfPart 6 s args RX4 G B κ meth (some .int)) (hu0 : okk κ 5 u0) (hp1 : inR p1) {M : Mem} {Qm : Int → Mem → Prop} (hw : wp_X4_heightOfPart u0 p1 M Qm) (H : Heap) (locs : List Loc) (hR : Rp G e0 α κ B M H) (hS : va_S (fun q => B ≤ q) s.heap H locs) (ls : Array Slot) (hl : lv_has ls 6 [(0, .ref (α 5 u0)), (1, .int (Int32.ofInt p1))]) : WI p l e 3 s m args below meth c G e0 α κ B Qm H locs 0 ls [] := by
  have hw : (∃ n12 : Nat, wp_X4_heightOfPart_14 u0 p1 Qm n12 (rowL p1) 0 0 M) := hw
  refine lv_aload_n X.1.1 X.1.2.1 dX4_heightOfPart_0 rfl (lv_at hl 0 rfl) ?_
  refine gt_5_0 X hR hu0 kw_191 dX4_heightOfPart_1 ?_
  refine lv_iload_n X.1.1 X.1.2.1 dX4_heightOfPart_4 rfl (lv_at hl 1 rfl) ?_
  refine cs_rowsOf X hp1 (kc := 3) rmL_ok rm_c (by decide) hR hS kw_539 hl.1 dX4_heightOfPart_5 (Nat.le_of_ble_eq_true rfl) (fun H locs hR hS => ?_)
  refine lv_astore_n (lv' := [(2, .ref (α (rowL p1) 0)), (0, .ref (α 5 u0)), (1, .int (Int32.ofInt p1))]) X.1.1 X.1.2.1 dX4_heightOfPart_8 rfl hl (by decide) rfl (fun ls hl => ?_)
  refine sa_const X.1 dX4_heightOfPart_9 ?_
  refine lv_istore_n (lv' := [(3, .int (Int32.ofInt 0)), (2, .ref (α (rowL p1) 0)), (0, .ref (α 5 u0)), (1, .int (Int32.ofInt p1))]) X.1.1 X.1.2.1 dX4_heightOfPart_10 rfl hl (by decide) rfl (fun ls hl => ?_)
  refine sa_const X.1 dX4_heightOfPart_11 ?_
  refine lv_istore (lv' := [(4, .int (Int32.ofInt 0)), (3, .int (Int32.ofInt 0)), (2, .ref (α (rowL p1) 0)), (0, .ref (α 5 u0)), (1, .int (Int32.ofInt p1))]) X.1.1 X.1.2.1 dX4_heightOfPart_12 hl (by decide) rfl (fun ls hl => ?_)
  obtain ⟨n12, hw⟩ := hw
  exact t_X4_heightOfPart_14 X hu0 hp1 n12 _ _ _ _ hw (rowL_ok p1) (inR_c (a := 0) rfl) (inR_c (a := 0) rfl) _ _ hR hS _ (lv_sub hl [3, 2, 1, 0] rfl)
theorem m_X4_heightOfPart {l : Launch} {G : Gx} {e0 : Nat} {α : Ax} {κ : Nat → Int} {B : Nat} {u0 : Int} {p1 : Int} (hκ : kOK κ) (hu0 : okk κ 5 u0) (hp1 : inR p1) {M : Mem} {Qm : Int → Mem → Prop} (hw : wp_X4_heightOfPart u0 p1 M Qm) : CI l yX4_heightOfPart (Cond.code yX4_heightOfPart cX4_heightOfPart 6 (some .int)) 3 G e0 α κ B [.ref (α 5 u0), .int (Int32.ofInt p1)] M Qm :=
  CI.mk hκ (by decide +kernel) rfl (Nat.le_of_ble_eq_true rfl) (lv := [(0, .ref (α 5 u0)), (1, .int (Int32.ofInt p1))]) rfl (fun p e s m args below meth c ls X hR hS hl => t_X4_heightOfPart X hu0 hp1 hw _ _ hR hS ls hl)
theorem cs_X4_heightOfPart {cc : ByteArray} {nL : Nat} {own : String} {ret : Option FieldType} {idx pc : Nat} {u0 : Int} {p1 : Int} (X : CX p m c cc nL s args own G B κ meth ret) (hu0 : okk κ 5 u0) (hp1 : inR p1) {kc : Nat} {R : Room} {cells slots : Nat} (hRr : RmOK R kc) (hcel : cells ≤ R.cells ∧ slots ≤ R.slots) (hk : 3 + 1 ≤ kc) {M : Mem} {H : Heap} {locs : List Loc} (hR : Rp G e0 α κ B M H) (hS : va_S (fun q => B ≤ q) s.heap H locs) (k1 : Cond.methodLink own idx yX4_heightOfPart ∈ gw) {ls : Array Slot} (hml : ls.size = nL) {rest : List Value} (hd : decode cc pc = .ok (.invokevirtual idx, 3)) (hrest : (rest.map fun v => v.category).sum ≤ 8) {Q : State → Prop} {Qm : Int → Mem → Prop} (hw : wp_X4_heightOfPart u0 p1 M Qm) (kk : ∀ (r : Int) (M1 : Mem) (H1 : Heap) (locs1 : List Loc), Qm r M1 → inR r → Rp G e0 α κ B M1 H1 → va_S (fun q => B ≤ q) s.heap H1 locs1 → W p l e R s m args below meth c H1 locs1 cells slots Q (F0 m (pc + 3) ls (.int (Int32.ofInt r) :: rest))) : W p l e R s m args below meth c H locs cells slots Q (F0 m pc ls (.int (Int32.ofInt p1) :: .ref (α 5 u0) :: rest)) :=
  sa_callVI 3 (n := 1) (As := [.int (Int32.ofInt p1)]) (rest := rest) X.1 X.2.1 hR hS (m_X4_heightOfPart X.2.2.1 hu0 hp1 hw) k1 kw_555 kw_556 kw_44 kw_557 ⟨rfl, by decide +kernel, by decide +kernel, by decide +kernel⟩ (rm_ok hRr hk (by decide)) (rc_5 X hR hu0) rfl rfl hrest hml hd hcel kk
def wp_X6_clear (u0 : Int) (p1 : Int) (M : Mem) (Qm : Mem → Prop) : Prop := ∀ M1 : Mem, M1 = up M 7 u0 3 p1 → ∀ M3 : Mem, M3 = up M1 7 u0 0 1 → ∀ M5 : Mem, M5 = up M3 7 u0 1 0 → ∀ M7 : Mem, M7 = up M5 7 u0 2 0 → Qm M7
set_option maxHeartbeats 4000000 in
set_option maxRecDepth 100000 in
theorem t_X6_clear {u0 : Int} {p1 : Int} (X : CX p m c cX6_clear 2 s args RX6 G B κ meth none) (hu0 : okk κ 7 u0) (hp1 : inR p1) {M : Mem} {Qm : Mem → Prop} (hw : wp_X6_clear u0 p1 M Qm) (H : Heap) (locs : List Loc) (hR : Rp G e0 α κ B M H) (hS : va_S (fun q => B ≤ q) s.heap H locs) (ls : Array Slot) (hl : lv_has ls 2 [(0, .ref (α 7 u0)), (1, .int (Int32.ofInt p1))]) : WV p l e 0 s m args below meth c G e0 α κ B Qm H locs 0 ls [] := by
  have hw : ∀ M1 : Mem, M1 = up M 7 u0 3 p1 → ∀ M3 : Mem, M3 = up M1 7 u0 0 1 → ∀ M5 : Mem, M5 = up M3 7 u0 1 0 → ∀ M7 : Mem, M7 = up M5 7 u0 2 0 → Qm M7 := hw
  refine lv_aload_n X.1.1 X.1.2.1 dX6_clear_0 rfl (lv_at hl 0 rfl) ?_
  refine lv_iload_n X.1.1 X.1.2.1 dX6_clear_1 rfl (lv_at hl 1 rfl) ?_
  refine pt_7_3 X hR hS hu0 hp1 kw_246 dX6_clear_2 (fun H locs hR hS => ?_)
  obtain ⟨M1, e2⟩ : ∃ z : Mem, z = up M 7 u0 3 p1 := ⟨_, rfl⟩
  rw [← e2] at hR
  have hw := hw M1 e2
  refine lv_aload_n X.1.1 X.1.2.1 dX6_clear_5 rfl (lv_at hl 0 rfl) ?_
  refine sa_const X.1 dX6_clear_6 ?_
  refine pt_7_0 X hR hS hu0 (Or.inr rfl) kw_240 dX6_clear_7 (fun H locs hR hS => ?_)
  obtain ⟨M3, e4⟩ : ∃ z : Mem, z = up M1 7 u0 0 1 := ⟨_, rfl⟩
  rw [← e4] at hR
  have hw := hw M3 e4
  refine lv_aload_n X.1.1 X.1.2.1 dX6_clear_10 rfl (lv_at hl 0 rfl) ?_
  refine sa_const X.1 dX6_clear_11 ?_
  refine pt_7_1 X hR hS hu0 (inR_c (a := 0) rfl) kw_242 dX6_clear_12 (fun H locs hR hS => ?_)
  obtain ⟨M5, e6⟩ : ∃ z : Mem, z = up M3 7 u0 1 0 := ⟨_, rfl⟩
  rw [← e6] at hR
  have hw := hw M5 e6
  refine lv_aload_n X.1.1 X.1.2.1 dX6_clear_15 rfl (lv_at hl 0 rfl) ?_
  refine sa_const X.1 dX6_clear_16 ?_
  refine pt_7_2 X hR hS hu0 (inR_c (a := 0) rfl) kw_245 dX6_clear_17 (fun H locs hR hS => ?_)
  obtain ⟨M7, e8⟩ : ∃ z : Mem, z = up M5 7 u0 2 0 := ⟨_, rfl⟩
  rw [← e8] at hR
  have hw := hw M7 e8
  exact sa_vret X.1 X.2.2.2.1 X.2.2.2.2 hR hS hw dX6_clear_20
theorem m_X6_clear {l : Launch} {G : Gx} {e0 : Nat} {α : Ax} {κ : Nat → Int} {B : Nat} {u0 : Int} {p1 : Int} (hκ : kOK κ) (hu0 : okk κ 7 u0) (hp1 : inR p1) {M : Mem} {Qm : Mem → Prop} (hw : wp_X6_clear u0 p1 M Qm) : CV l yX6_clear (Cond.code yX6_clear cX6_clear 2 none) 0 G e0 α κ B [.ref (α 7 u0), .int (Int32.ofInt p1)] M Qm :=
  CV.mk hκ (by decide +kernel) rfl (Nat.le_of_ble_eq_true rfl) (lv := [(0, .ref (α 7 u0)), (1, .int (Int32.ofInt p1))]) rfl (fun p e s m args below meth c ls X hR hS hl => t_X6_clear X hu0 hp1 hw _ _ hR hS ls hl)
theorem cs_X6_clear {cc : ByteArray} {nL : Nat} {own : String} {ret : Option FieldType} {idx pc : Nat} {u0 : Int} {p1 : Int} (X : CX p m c cc nL s args own G B κ meth ret) (hu0 : okk κ 7 u0) (hp1 : inR p1) {kc : Nat} {R : Room} {cells slots : Nat} (hRr : RmOK R kc) (hcel : cells ≤ R.cells ∧ slots ≤ R.slots) (hk : 0 + 1 ≤ kc) {M : Mem} {H : Heap} {locs : List Loc} (hR : Rp G e0 α κ B M H) (hS : va_S (fun q => B ≤ q) s.heap H locs) (k1 : Cond.methodLink own idx yX6_clear ∈ gw) {ls : Array Slot} (hml : ls.size = nL) {rest : List Value} (hd : decode cc pc = .ok (.invokevirtual idx, 3)) (hrest : (rest.map fun v => v.category).sum ≤ 8) {Q : State → Prop} {Qm : Mem → Prop} (hw : wp_X6_clear u0 p1 M Qm) (kk : ∀ (M1 : Mem) (H1 : Heap) (locs1 : List Loc), Qm M1 → Rp G e0 α κ B M1 H1 → va_S (fun q => B ≤ q) s.heap H1 locs1 → W p l e R s m args below meth c H1 locs1 cells slots Q (F0 m (pc + 3) ls (rest))) : W p l e R s m args below meth c H locs cells slots Q (F0 m pc ls (.int (Int32.ofInt p1) :: .ref (α 7 u0) :: rest)) :=
  sa_callVV 0 (n := 1) (As := [.int (Int32.ofInt p1)]) (rest := rest) X.1 X.2.1 hR hS (m_X6_clear X.2.2.1 hu0 hp1 hw) k1 kw_582 kw_583 kw_46 kw_584 ⟨rfl, by decide +kernel, by decide +kernel, by decide +kernel⟩ (rm_ok hRr hk (by decide)) (rc_7 X hR hu0) rfl rfl hrest hml hd hcel kk
def wp_X6_giveUp (u0 : Int) (M : Mem) (Qm : Mem → Prop) : Prop := wp_X6_clear u0 0 M fun (M1 : Mem) => ∀ M2 : Mem, M2 = up M1 7 u0 0 0 → Qm M2
set_option maxHeartbeats 4000000 in
set_option maxRecDepth 100000 in
theorem t_X6_giveUp {u0 : Int} (X : CX p m c cX6_giveUp 1 s args RX6 G B κ meth none) (hu0 : okk κ 7 u0) {M : Mem} {Qm : Mem → Prop} (hw : wp_X6_giveUp u0 M Qm) (H : Heap) (locs : List Loc) (hR : Rp G e0 α κ B M H) (hS : va_S (fun q => B ≤ q) s.heap H locs) (ls : Array Slot) (hl : lv_has ls 1 [(0, .ref (α 7 u0))]) : WV p l e 1 s m args below meth c G e0 α κ B Qm H locs 0 ls [] := by
  have hw : wp_X6_clear u0 0 M fun (M1 : Mem) => ∀ M2 : Mem, M2 = up M1 7 u0 0 0 → Qm M2 := hw
  refine lv_aload_n X.1.1 X.1.2.1 dX6_giveUp_0 rfl (lv_at hl 0 rfl) ?_
  refine sa_const X.1 dX6_giveUp_1 ?_
  refine cs_X6_clear X hu0 (inR_c (a := 0) rfl) (kc := 1) rmL_ok rm_c (by decide) hR hS kw_609 hl.1 dX6_giveUp_2 (Nat.le_of_ble_eq_true rfl) hw (fun M1 H locs hw hR hS => ?_)
  refine lv_aload_n X.1.1 X.1.2.1 dX6_giveUp_5 rfl (lv_at hl 0 rfl) ?_
  refine sa_const X.1 dX6_giveUp_6 ?_
  refine pt_7_0 X hR hS hu0 (Or.inl rfl) kw_240 dX6_giveUp_7 (fun H locs hR hS => ?_)
  obtain ⟨M2, e3⟩ : ∃ z : Mem, z = up M1 7 u0 0 0 := ⟨_, rfl⟩
  rw [← e3] at hR
  have hw := hw M2 e3
  exact sa_vret X.1 X.2.2.2.1 X.2.2.2.2 hR hS hw dX6_giveUp_10
theorem m_X6_giveUp {l : Launch} {G : Gx} {e0 : Nat} {α : Ax} {κ : Nat → Int} {B : Nat} {u0 : Int} (hκ : kOK κ) (hu0 : okk κ 7 u0) {M : Mem} {Qm : Mem → Prop} (hw : wp_X6_giveUp u0 M Qm) : CV l yX6_giveUp (Cond.code yX6_giveUp cX6_giveUp 1 none) 1 G e0 α κ B [.ref (α 7 u0)] M Qm :=
  CV.mk hκ (by decide +kernel) rfl (Nat.le_of_ble_eq_true rfl) (lv := [(0, .ref (α 7 u0))]) rfl (fun p e s m args below meth c ls X hR hS hl => t_X6_giveUp X hu0 hw _ _ hR hS ls hl)
theorem cs_X6_giveUp {cc : ByteArray} {nL : Nat} {own : String} {ret : Option FieldType} {idx pc : Nat} {u0 : Int} (X : CX p m c cc nL s args own G B κ meth ret) (hu0 : okk κ 7 u0) {kc : Nat} {R : Room} {cells slots : Nat} (hRr : RmOK R kc) (hcel : cells ≤ R.cells ∧ slots ≤ R.slots) (hk : 1 + 1 ≤ kc) {M : Mem} {H : Heap} {locs : List Loc} (hR : Rp G e0 α κ B M H) (hS : va_S (fun q => B ≤ q) s.heap H locs) (k1 : Cond.methodLink own idx yX6_giveUp ∈ gw) {ls : Array Slot} (hml : ls.size = nL) {rest : List Value} (hd : decode cc pc = .ok (.invokevirtual idx, 3)) (hrest : (rest.map fun v => v.category).sum ≤ 8) {Q : State → Prop} {Qm : Mem → Prop} (hw : wp_X6_giveUp u0 M Qm) (kk : ∀ (M1 : Mem) (H1 : Heap) (locs1 : List Loc), Qm M1 → Rp G e0 α κ B M1 H1 → va_S (fun q => B ≤ q) s.heap H1 locs1 → W p l e R s m args below meth c H1 locs1 cells slots Q (F0 m (pc + 3) ls (rest))) : W p l e R s m args below meth c H locs cells slots Q (F0 m pc ls (.ref (α 7 u0) :: rest)) :=
  sa_callVV 1 (n := 0) (As := []) (rest := rest) X.1 X.2.1 hR hS (m_X6_giveUp X.2.2.1 hu0 hw) k1 kw_606 kw_607 kw_46 kw_608 ⟨rfl, by decide +kernel, by decide +kernel, by decide +kernel⟩ (rm_ok hRr hk (by decide)) (rc_7 X hR hu0) rfl rfl hrest hml hd hcel kk
def wp_X6_hasPage (u0 : Int) (p1 : Int) (M : Mem) (Qm : Int → Mem → Prop) : Prop := (bit (if p1 < 0 then (0 : Int) else (if (M 7 u0 1) ≤ p1 then (0 : Int) else (if 904 ≤ p1 then (0 : Int) else 1)))) ∧ Qm (if p1 < 0 then (0 : Int) else (if (M 7 u0 1) ≤ p1 then (0 : Int) else (if 904 ≤ p1 then (0 : Int) else 1))) M
set_option maxHeartbeats 4000000 in
set_option maxRecDepth 100000 in
theorem t_X6_hasPage {u0 : Int} {p1 : Int} (X : CX p m c cX6_hasPage 2 s args RX6 G B κ meth (some .boolean)) (hu0 : okk κ 7 u0) (hp1 : inR p1) {M : Mem} {Qm : Int → Mem → Prop} (hw : wp_X6_hasPage u0 p1 M Qm) (H : Heap) (locs : List Loc) (hR : Rp G e0 α κ B M H) (hS : va_S (fun q => B ≤ q) s.heap H locs) (ls : Array Slot) (hl : lv_has ls 2 [(0, .ref (α 7 u0)), (1, .int (Int32.ofInt p1))]) : WI p l e 0 s m args below meth c G e0 α κ B Qm H locs 0 ls [] := by
  have hw : (bit (if p1 < 0 then (0 : Int) else (if (M 7 u0 1) ≤ p1 then (0 : Int) else (if 904 ≤ p1 then (0 : Int) else 1)))) ∧ Qm (if p1 < 0 then (0 : Int) else (if (M 7 u0 1) ≤ p1 then (0 : Int) else (if 904 ≤ p1 then (0 : Int) else 1))) M := hw
  refine lv_iload_n X.1.1 X.1.2.1 dX6_hasPage_0 rfl (lv_at hl 1 rfl) ?_
  have r5 := inR_ite (c := p1 < 0) (inR_c (a := 0) rfl) (inR_ite (c := (M 7 u0 1) ≤ p1) (inR_c (a := 0) rfl) (inR_ite (c := 904 ≤ p1) (inR_c (a := 0) rfl) (inR_c (a := 1) rfl)))
  refine cut_j (A := ∀ v6 : Int, v6 = (if p1 < 0 then (0 : Int) else (if (M 7 u0 1) ≤ p1 then (0 : Int) else (if 904 ≤ p1 then (0 : Int) else 1))) → WI p l e 0 s m args below meth c G e0 α κ B Qm H locs 24 ls [.int (Int32.ofInt v6)]) (fun J7 => ?_) ?_
  · refine sa_if_lt (tgt := 23) X.1 hp1 dX6_hasPage_1 (by decide) (fun hc => ?_) (fun hc => ?_)
    · skip
      refine sa_const X.1 dX6_hasPage_23 ?_
      exact J7 (0) (if_pos (c := p1 < 0) hc).symm
    · skip
      refine lv_iload_n X.1.1 X.1.2.1 dX6_hasPage_4 rfl (lv_at hl 1 rfl) ?_
      refine lv_aload_n X.1.1 X.1.2.1 dX6_hasPage_5 rfl (lv_at hl 0 rfl) ?_
      refine gt_7_1 X hR hu0 kw_242 dX6_hasPage_6 ?_
      refine cut_j (A := ∀ v3 : Int, v3 = (if (M 7 u0 1) ≤ p1 then (0 : Int) else (if 904 ≤ p1 then (0 : Int) else 1)) → WI p l e 0 s m args below meth c G e0 α κ B Qm H locs 24 ls [.int (Int32.ofInt v3)]) (fun J4 => ?_) ?_
      · refine sa_icmp_ge (tgt := 23) X.1 hp1 (hR.r 7 u0 1) dX6_hasPage_9 (by decide) (fun hc => ?_) (fun hc => ?_)
        · skip
          refine sa_const X.1 dX6_hasPage_23 ?_
          exact J4 (0) (if_pos (c := (M 7 u0 1) ≤ p1) hc).symm
        · skip
          refine lv_iload_n X.1.1 X.1.2.1 dX6_hasPage_12 rfl (lv_at hl 1 rfl) ?_
          refine sa_sipush X.1 dX6_hasPage_13 (by decide) ?_
          refine cut_j (A := ∀ v1 : Int, v1 = (if 904 ≤ p1 then (0 : Int) else 1) → WI p l e 0 s m args below meth c G e0 α κ B Qm H locs 24 ls [.int (Int32.ofInt v1)]) (fun J2 => ?_) ?_
          · refine sa_icmp_ge (tgt := 23) X.1 hp1 (inR_c (a := 904) rfl) dX6_hasPage_16 (by decide) (fun hc => ?_) (fun hc => ?_)
            · skip
              refine sa_const X.1 dX6_hasPage_23 ?_
              exact J2 (0) (if_pos (c := 904 ≤ p1) hc).symm
            · skip
              refine sa_const X.1 dX6_hasPage_19 ?_
              refine lv_goto (tgt := 24) X.1.1 X.1.2.1 dX6_hasPage_20 (by decide) ?_
              exact J2 (1) (if_neg (c := 904 ≤ p1) (Int.not_le.mpr hc)).symm
          intro v1 hv1
          subst hv1
          exact J4 ((if 904 ≤ p1 then (0 : Int) else 1)) (if_neg (c := (M 7 u0 1) ≤ p1) (Int.not_le.mpr hc)).symm
      intro v3 hv3
      subst hv3
      exact J7 ((if (M 7 u0 1) ≤ p1 then (0 : Int) else (if 904 ≤ p1 then (0 : Int) else 1))) (if_neg (c := p1 < 0) (Int.not_lt.mpr hc)).symm
  intro v6 hv6
  subst hv6
  have c8 := hw.1
  have hw := hw.2
  exact sa_zret X.1 X.2.2.2.1 X.2.2.2.2 hR hS c8 hw dX6_hasPage_24
theorem m_X6_hasPage {l : Launch} {G : Gx} {e0 : Nat} {α : Ax} {κ : Nat → Int} {B : Nat} {u0 : Int} {p1 : Int} (hκ : kOK κ) (hu0 : okk κ 7 u0) (hp1 : inR p1) {M : Mem} {Qm : Int → Mem → Prop} (hw : wp_X6_hasPage u0 p1 M Qm) : CI l yX6_hasPage (Cond.code yX6_hasPage cX6_hasPage 2 (some .boolean)) 0 G e0 α κ B [.ref (α 7 u0), .int (Int32.ofInt p1)] M Qm :=
  CI.mk hκ (by decide +kernel) rfl (Nat.le_of_ble_eq_true rfl) (lv := [(0, .ref (α 7 u0)), (1, .int (Int32.ofInt p1))]) rfl (fun p e s m args below meth c ls X hR hS hl => t_X6_hasPage X hu0 hp1 hw _ _ hR hS ls hl)
theorem cs_X6_hasPage {cc : ByteArray} {nL : Nat} {own : String} {ret : Option FieldType} {idx pc : Nat} {u0 : Int} {p1 : Int} (X : CX p m c cc nL s args own G B κ meth ret) (hu0 : okk κ 7 u0) (hp1 : inR p1) {kc : Nat} {R : Room} {cells slots : Nat} (hRr : RmOK R kc) (hcel : cells ≤ R.cells ∧ slots ≤ R.slots) (hk : 0 + 1 ≤ kc) {M : Mem} {H : Heap} {locs : List Loc} (hR : Rp G e0 α κ B M H) (hS : va_S (fun q => B ≤ q) s.heap H locs) (k1 : Cond.methodLink own idx yX6_hasPage ∈ gw) {ls : Array Slot} (hml : ls.size = nL) {rest : List Value} (hd : decode cc pc = .ok (.invokevirtual idx, 3)) (hrest : (rest.map fun v => v.category).sum ≤ 8) {Q : State → Prop} {Qm : Int → Mem → Prop} (hw : wp_X6_hasPage u0 p1 M Qm) (kk : ∀ (r : Int) (M1 : Mem) (H1 : Heap) (locs1 : List Loc), Qm r M1 → inR r → Rp G e0 α κ B M1 H1 → va_S (fun q => B ≤ q) s.heap H1 locs1 → W p l e R s m args below meth c H1 locs1 cells slots Q (F0 m (pc + 3) ls (.int (Int32.ofInt r) :: rest))) : W p l e R s m args below meth c H locs cells slots Q (F0 m pc ls (.int (Int32.ofInt p1) :: .ref (α 7 u0) :: rest)) :=
  sa_callVI 0 (n := 1) (As := [.int (Int32.ofInt p1)]) (rest := rest) X.1 X.2.1 hR hS (m_X6_hasPage X.2.2.1 hu0 hp1 hw) k1 kw_623 kw_624 kw_46 kw_625 ⟨rfl, by decide +kernel, by decide +kernel, by decide +kernel⟩ (rm_ok hRr hk (by decide)) (rc_7 X hR hu0) rfl rfl hrest hml hd hcel kk
def wp_X6_openPage_53 (u0 : Int) (Qm : Mem → Prop) (M : Mem) : Prop := Qm M
def wp_X6_openPage (u0 : Int) (M : Mem) (Qm : Mem → Prop) : Prop := ((904 ≤ (M 7 u0 1) → wp_X6_openPage_53 u0 Qm M) ∧ ((M 7 u0 1) < 904 → (0 ≤ (M 7 u0 1) ∧ (M 7 u0 1) < 904) ∧ ∀ M5 : Mem, M5 = up M 41 u0 (M 7 u0 1) (M 7 u0 2) → (0 ≤ (M5 7 u0 1) ∧ (M5 7 u0 1) < 904) ∧ ∀ M9 : Mem, M9 = up M5 42 u0 (M5 7 u0 1) 0 → (0 ≤ (M9 7 u0 1) ∧ (M9 7 u0 1) < 904) ∧ ∀ M13 : Mem, M13 = up M9 43 u0 (M9 7 u0 1) 0 → (inR ((M13 7 u0 1) + 1)) ∧ ∀ M17 : Mem, M17 = up M13 7 u0 1 ((M13 7 u0 1) + 1) → wp_X6_openPage_53 u0 Qm M17))
set_option maxHeartbeats 4000000 in
set_option maxRecDepth 100000 in
theorem t_X6_openPage_53 {u0 : Int} (X : CX p m c cX6_openPage 1 s args RX6 G B κ meth none) (hu0 : okk κ 7 u0) {Qm : Mem → Prop} : ∀ M : Mem, wp_X6_openPage_53 u0 Qm M → ∀ (H : Heap) (locs : List Loc), Rp G e0 α κ B M H → va_S (fun q => B ≤ q) s.heap H locs → ∀ (ls : Array Slot), lv_has ls 1 [] → WV p l e 0 s m args below meth c G e0 α κ B Qm H locs 53 ls [] := by
  intro M hw H locs hR hS ls hl
  have hw : Qm M := hw
  exact sa_vret X.1 X.2.2.2.1 X.2.2.2.2 hR hS hw dX6_openPage_53
set_option maxHeartbeats 4000000 in
set_option maxRecDepth 100000 in
theorem t_X6_openPage {u0 : Int} (X : CX p m c cX6_openPage 1 s args RX6 G B κ meth none) (hu0 : okk κ 7 u0) {M : Mem} {Qm : Mem → Prop} (hw : wp_X6_openPage u0 M Qm) (H : Heap) (locs : List Loc) (hR : Rp G e0 α κ B M H) (hS : va_S (fun q => B ≤ q) s.heap H locs) (ls : Array Slot) (hl : lv_has ls 1 [(0, .ref (α 7 u0))]) : WV p l e 0 s m args below meth c G e0 α κ B Qm H locs 0 ls [] := by
  have hw : ((904 ≤ (M 7 u0 1) → wp_X6_openPage_53 u0 Qm M) ∧ ((M 7 u0 1) < 904 → (0 ≤ (M 7 u0 1) ∧ (M 7 u0 1) < 904) ∧ ∀ M5 : Mem, M5 = up M 41 u0 (M 7 u0 1) (M 7 u0 2) → (0 ≤ (M5 7 u0 1) ∧ (M5 7 u0 1) < 904) ∧ ∀ M9 : Mem, M9 = up M5 42 u0 (M5 7 u0 1) 0 → (0 ≤ (M9 7 u0 1) ∧ (M9 7 u0 1) < 904) ∧ ∀ M13 : Mem, M13 = up M9 43 u0 (M9 7 u0 1) 0 → (inR ((M13 7 u0 1) + 1)) ∧ ∀ M17 : Mem, M17 = up M13 7 u0 1 ((M13 7 u0 1) + 1) → wp_X6_openPage_53 u0 Qm M17)) := hw
  refine lv_aload_n X.1.1 X.1.2.1 dX6_openPage_0 rfl (lv_at hl 0 rfl) ?_
  refine gt_7_1 X hR hu0 kw_242 dX6_openPage_1 ?_
  have r1 := hR.r 7 u0 1
  refine sa_sipush X.1 dX6_openPage_4 (by decide) ?_
  refine sa_icmp_ge (tgt := 53) X.1 r1 (inR_c (a := 904) rfl) dX6_openPage_7 (by decide) (fun hc => ?_) (fun hc => ?_)
  · have hw := hw.1 hc
    exact t_X6_openPage_53 X hu0 _ hw _ _ hR hS _ (lv_sub hl [] rfl)
  · have hw := hw.2 hc
    refine lv_aload_n X.1.1 X.1.2.1 dX6_openPage_10 rfl (lv_at hl 0 rfl) ?_
    refine gt_7_7 X hR hu0 kw_250 dX6_openPage_11 ?_
    refine lv_aload_n X.1.1 X.1.2.1 dX6_openPage_14 rfl (lv_at hl 0 rfl) ?_
    refine gt_7_1 X hR hu0 kw_242 dX6_openPage_15 ?_
    have r2 := hR.r 7 u0 1
    refine lv_aload_n X.1.1 X.1.2.1 dX6_openPage_18 rfl (lv_at hl 0 rfl) ?_
    refine gt_7_2 X hR hu0 kw_245 dX6_openPage_19 ?_
    have r3 := hR.r 7 u0 2
    have c4 := hw.1
    have hw := hw.2
    refine wa_41 X hR hS (okp X.2.2.1 rfl (pr_7 X.2.2.1 hu0)) c4 r3 dX6_openPage_22 (fun H locs hR hS => ?_)
    obtain ⟨M5, e6⟩ : ∃ z : Mem, z = up M 41 u0 (M 7 u0 1) (M 7 u0 2) := ⟨_, rfl⟩
    rw [← e6] at hR
    have hw := hw M5 e6
    refine lv_aload_n X.1.1 X.1.2.1 dX6_openPage_23 rfl (lv_at hl 0 rfl) ?_
    refine gt_7_8 X hR hu0 kw_251 dX6_openPage_24 ?_
    refine lv_aload_n X.1.1 X.1.2.1 dX6_openPage_27 rfl (lv_at hl 0 rfl) ?_
    refine gt_7_1 X hR hu0 kw_242 dX6_openPage_28 ?_
    have r7 := hR.r 7 u0 1
    refine sa_const X.1 dX6_openPage_31 ?_
    have c8 := hw.1
    have hw := hw.2
    refine wa_42 X hR hS (okp X.2.2.1 rfl (pr_7 X.2.2.1 hu0)) c8 (inR_c (a := 0) rfl) dX6_openPage_32 (fun H locs hR hS => ?_)
    obtain ⟨M9, e10⟩ : ∃ z : Mem, z = up M5 42 u0 (M5 7 u0 1) 0 := ⟨_, rfl⟩
    rw [← e10] at hR
    have hw := hw M9 e10
    refine lv_aload_n X.1.1 X.1.2.1 dX6_openPage_33 rfl (lv_at hl 0 rfl) ?_
    refine gt_7_9 X hR hu0 kw_253 dX6_openPage_34 ?_
    refine lv_aload_n X.1.1 X.1.2.1 dX6_openPage_37 rfl (lv_at hl 0 rfl) ?_
    refine gt_7_1 X hR hu0 kw_242 dX6_openPage_38 ?_
    have r11 := hR.r 7 u0 1
    refine sa_const X.1 dX6_openPage_41 ?_
    have c12 := hw.1
    have hw := hw.2
    refine wa_43 X hR hS (okp X.2.2.1 rfl (pr_7 X.2.2.1 hu0)) c12 (inR_c (a := 0) rfl) dX6_openPage_42 (fun H locs hR hS => ?_)
    obtain ⟨M13, e14⟩ : ∃ z : Mem, z = up M9 43 u0 (M9 7 u0 1) 0 := ⟨_, rfl⟩
    rw [← e14] at hR
    have hw := hw M13 e14
    refine lv_aload_n X.1.1 X.1.2.1 dX6_openPage_43 rfl (lv_at hl 0 rfl) ?_
    refine lv_dup X.1.1 X.1.2.1 dX6_openPage_44 rfl ?_
    refine gt_7_1 X hR hu0 kw_242 dX6_openPage_45 ?_
    have r15 := hR.r 7 u0 1
    refine sa_const X.1 dX6_openPage_48 ?_
    have c16 := hw.1
    have hw := hw.2
    refine sa_iadd X.1 dX6_openPage_49 ?_
    refine pt_7_1 X hR hS hu0 c16 kw_242 dX6_openPage_50 (fun H locs hR hS => ?_)
    obtain ⟨M17, e18⟩ : ∃ z : Mem, z = up M13 7 u0 1 ((M13 7 u0 1) + 1) := ⟨_, rfl⟩
    rw [← e18] at hR
    have hw := hw M17 e18
    exact t_X6_openPage_53 X hu0 _ hw _ _ hR hS _ (lv_sub hl [] rfl)
theorem m_X6_openPage {l : Launch} {G : Gx} {e0 : Nat} {α : Ax} {κ : Nat → Int} {B : Nat} {u0 : Int} (hκ : kOK κ) (hu0 : okk κ 7 u0) {M : Mem} {Qm : Mem → Prop} (hw : wp_X6_openPage u0 M Qm) : CV l yX6_openPage (Cond.code yX6_openPage cX6_openPage 1 none) 0 G e0 α κ B [.ref (α 7 u0)] M Qm :=
  CV.mk hκ (by decide +kernel) rfl (Nat.le_of_ble_eq_true rfl) (lv := [(0, .ref (α 7 u0))]) rfl (fun p e s m args below meth c ls X hR hS hl => t_X6_openPage X hu0 hw _ _ hR hS ls hl)
theorem cs_X6_openPage {cc : ByteArray} {nL : Nat} {own : String} {ret : Option FieldType} {idx pc : Nat} {u0 : Int} (X : CX p m c cc nL s args own G B κ meth ret) (hu0 : okk κ 7 u0) {kc : Nat} {R : Room} {cells slots : Nat} (hRr : RmOK R kc) (hcel : cells ≤ R.cells ∧ slots ≤ R.slots) (hk : 0 + 1 ≤ kc) {M : Mem} {H : Heap} {locs : List Loc} (hR : Rp G e0 α κ B M H) (hS : va_S (fun q => B ≤ q) s.heap H locs) (k1 : Cond.methodLink own idx yX6_openPage ∈ gw) {ls : Array Slot} (hml : ls.size = nL) {rest : List Value} (hd : decode cc pc = .ok (.invokevirtual idx, 3)) (hrest : (rest.map fun v => v.category).sum ≤ 8) {Q : State → Prop} {Qm : Mem → Prop} (hw : wp_X6_openPage u0 M Qm) (kk : ∀ (M1 : Mem) (H1 : Heap) (locs1 : List Loc), Qm M1 → Rp G e0 α κ B M1 H1 → va_S (fun q => B ≤ q) s.heap H1 locs1 → W p l e R s m args below meth c H1 locs1 cells slots Q (F0 m (pc + 3) ls (rest))) : W p l e R s m args below meth c H locs cells slots Q (F0 m pc ls (.ref (α 7 u0) :: rest)) :=
  sa_callVV 0 (n := 0) (As := []) (rest := rest) X.1 X.2.1 hR hS (m_X6_openPage X.2.2.1 hu0 hw) k1 kw_590 kw_591 kw_46 kw_592 ⟨rfl, by decide +kernel, by decide +kernel, by decide +kernel⟩ (rm_ok hRr hk (by decide)) (rc_7 X hR hu0) rfl rfl hrest hml hd hcel kk
def wp_X6_put_31 (u0 : Int) (p1 : Int) (p2 : Int) (p3 : Int) (p4 : Int) (Qm : Mem → Prop) (M : Mem) : Prop := Qm M
def wp_X6_put_130 (u0 : Int) (p1 : Int) (p2 : Int) (p3 : Int) (p4 : Int) (Qm : Mem → Prop) (M : Mem) : Prop := Qm M
def wp_X6_put (u0 : Int) (p1 : Int) (p2 : Int) (p3 : Int) (p4 : Int) (M : Mem) (Qm : Mem → Prop) : Prop := (inR ((M 7 u0 1) - 1)) ∧ ((904 ≤ (M 7 u0 2) → wp_X6_put_31 u0 p1 p2 p3 p4 Qm M) ∧ ((M 7 u0 2) < 904 → ((((M 7 u0 1) - 1) < 0 → wp_X6_put_31 u0 p1 p2 p3 p4 Qm M) ∧ (0 ≤ ((M 7 u0 1) - 1) → ((((M 7 u0 1) - 1) < 904 → (0 ≤ (M 7 u0 2) ∧ (M 7 u0 2) < 904) ∧ ∀ M6 : Mem, M6 = up M 38 u0 (M 7 u0 2) p1 → (0 ≤ (M6 7 u0 2) ∧ (M6 7 u0 2) < 904) ∧ ∀ M10 : Mem, M10 = up M6 39 u0 (M6 7 u0 2) p2 → (0 ≤ (M10 7 u0 2) ∧ (M10 7 u0 2) < 904) ∧ ∀ M14 : Mem, M14 = up M10 40 u0 (M10 7 u0 2) p3 → (inR ((M14 7 u0 2) + 1)) ∧ ∀ M18 : Mem, M18 = up M14 7 u0 2 ((M14 7 u0 2) + 1) → (0 ≤ ((M 7 u0 1) - 1) ∧ ((M 7 u0 1) - 1) < 904) ∧ (inR (p3 + p4)) ∧ (inR ((M18 42 u0 ((M 7 u0 1) - 1)) + (p3 + p4))) ∧ (0 ≤ ((M 7 u0 1) - 1) ∧ ((M 7 u0 1) - 1) < 904) ∧ ∀ M25 : Mem, M25 = up M18 42 u0 ((M 7 u0 1) - 1) ((M18 42 u0 ((M 7 u0 1) - 1)) + (p3 + p4)) → (0 ≤ ((M 7 u0 1) - 1) ∧ ((M 7 u0 1) - 1) < 904) ∧ (inR ((M25 43 u0 ((M 7 u0 1) - 1)) + (if ¬ p1 = 65 then p4 else p3))) ∧ (0 ≤ ((M 7 u0 1) - 1) ∧ ((M 7 u0 1) - 1) < 904) ∧ ∀ M34 : Mem, M34 = up M25 43 u0 ((M 7 u0 1) - 1) ((M25 43 u0 ((M 7 u0 1) - 1)) + (if ¬ p1 = 65 then p4 else p3)) → ((p1 < 0 → wp_X6_put_130 u0 p1 p2 p3 p4 Qm M34) ∧ (0 ≤ p1 → ((29 ≤ p1 → wp_X6_put_130 u0 p1 p2 p3 p4 Qm M34) ∧ (p1 < 29 → ((¬ p2 = 0 → wp_X6_put_130 u0 p1 p2 p3 p4 Qm M34) ∧ (p2 = 0 → (0 ≤ p1 ∧ p1 < 29) ∧ ∀ M37 : Mem, M37 = up M34 45 u0 p1 ((M 7 u0 1) - 1) → wp_X6_put_130 u0 p1 p2 p3 p4 Qm M37))))))) ∧ (904 ≤ ((M 7 u0 1) - 1) → wp_X6_put_31 u0 p1 p2 p3 p4 Qm M))))))
set_option maxHeartbeats 4000000 in
set_option maxRecDepth 100000 in
theorem t_X6_put_31 {u0 : Int} {p1 : Int} {p2 : Int} {p3 : Int} {p4 : Int} (X : CX p m c cX6_put 6 s args RX6 G B κ meth none) (hu0 : okk κ 7 u0) (hp1 : inR p1) (hp2 : inR p2) (hp3 : inR p3) (hp4 : inR p4) {Qm : Mem → Prop} : ∀ M : Mem, wp_X6_put_31 u0 p1 p2 p3 p4 Qm M → ∀ (H : Heap) (locs : List Loc), Rp G e0 α κ B M H → va_S (fun q => B ≤ q) s.heap H locs → ∀ (ls : Array Slot), lv_has ls 6 [] → WV p l e 0 s m args below meth c G e0 α κ B Qm H locs 31 ls [] := by
  intro M hw H locs hR hS ls hl
  have hw : Qm M := hw
  exact sa_vret X.1 X.2.2.2.1 X.2.2.2.2 hR hS hw dX6_put_31
set_option maxHeartbeats 4000000 in
set_option maxRecDepth 100000 in
theorem t_X6_put_130 {u0 : Int} {p1 : Int} {p2 : Int} {p3 : Int} {p4 : Int} (X : CX p m c cX6_put 6 s args RX6 G B κ meth none) (hu0 : okk κ 7 u0) (hp1 : inR p1) (hp2 : inR p2) (hp3 : inR p3) (hp4 : inR p4) {Qm : Mem → Prop} : ∀ M : Mem, wp_X6_put_130 u0 p1 p2 p3 p4 Qm M → ∀ (H : Heap) (locs : List Loc), Rp G e0 α κ B M H → va_S (fun q => B ≤ q) s.heap H locs → ∀ (ls : Array Slot), lv_has ls 6 [] → WV p l e 0 s m args below meth c G e0 α κ B Qm H locs 130 ls [] := by
  intro M hw H locs hR hS ls hl
  have hw : Qm M := hw
  exact sa_vret X.1 X.2.2.2.1 X.2.2.2.2 hR hS hw dX6_put_130
set_option maxHeartbeats 4000000 in
set_option maxRecDepth 100000 in
theorem t_X6_put {u0 : Int} {p1 : Int} {p2 : Int} {p3 : Int} {p4 : Int} (X : CX p m c cX6_put 6 s args RX6 G B κ meth none) (hu0 : okk κ 7 u0) (hp1 : inR p1) (hp2 : inR p2) (hp3 : inR p3) (hp4 : inR p4) {M : Mem} {Qm : Mem → Prop} (hw : wp_X6_put u0 p1 p2 p3 p4 M Qm) (H : Heap) (locs : List Loc) (hR : Rp G e0 α κ B M H) (hS : va_S (fun q => B ≤ q) s.heap H locs) (ls : Array Slot) (hl : lv_has ls 6 [(0, .ref (α 7 u0)), (1, .int (Int32.ofInt p1)), (2, .int (Int32.ofInt p2)), (3, .int (Int32.ofInt p3)), (4, .int (Int32.ofInt p4))]) : WV p l e 0 s m args below meth c G e0 α κ B Qm H locs 0 ls [] := by
  have hw : (inR ((M 7 u0 1) - 1)) ∧ ((904 ≤ (M 7 u0 2) → wp_X6_put_31 u0 p1 p2 p3 p4 Qm M) ∧ ((M 7 u0 2) < 904 → ((((M 7 u0 1) - 1) < 0 → wp_X6_put_31 u0 p1 p2 p3 p4 Qm M) ∧ (0 ≤ ((M 7 u0 1) - 1) → ((((M 7 u0 1) - 1) < 904 → (0 ≤ (M 7 u0 2) ∧ (M 7 u0 2) < 904) ∧ ∀ M6 : Mem, M6 = up M 38 u0 (M 7 u0 2) p1 → (0 ≤ (M6 7 u0 2) ∧ (M6 7 u0 2) < 904) ∧ ∀ M10 : Mem, M10 = up M6 39 u0 (M6 7 u0 2) p2 → (0 ≤ (M10 7 u0 2) ∧ (M10 7 u0 2) < 904) ∧ ∀ M14 : Mem, M14 = up M10 40 u0 (M10 7 u0 2) p3 → (inR ((M14 7 u0 2) + 1)) ∧ ∀ M18 : Mem, M18 = up M14 7 u0 2 ((M14 7 u0 2) + 1) → (0 ≤ ((M 7 u0 1) - 1) ∧ ((M 7 u0 1) - 1) < 904) ∧ (inR (p3 + p4)) ∧ (inR ((M18 42 u0 ((M 7 u0 1) - 1)) + (p3 + p4))) ∧ (0 ≤ ((M 7 u0 1) - 1) ∧ ((M 7 u0 1) - 1) < 904) ∧ ∀ M25 : Mem, M25 = up M18 42 u0 ((M 7 u0 1) - 1) ((M18 42 u0 ((M 7 u0 1) - 1)) + (p3 + p4)) → (0 ≤ ((M 7 u0 1) - 1) ∧ ((M 7 u0 1) - 1) < 904) ∧ (inR ((M25 43 u0 ((M 7 u0 1) - 1)) + (if ¬ p1 = 65 then p4 else p3))) ∧ (0 ≤ ((M 7 u0 1) - 1) ∧ ((M 7 u0 1) - 1) < 904) ∧ ∀ M34 : Mem, M34 = up M25 43 u0 ((M 7 u0 1) - 1) ((M25 43 u0 ((M 7 u0 1) - 1)) + (if ¬ p1 = 65 then p4 else p3)) → ((p1 < 0 → wp_X6_put_130 u0 p1 p2 p3 p4 Qm M34) ∧ (0 ≤ p1 → ((29 ≤ p1 → wp_X6_put_130 u0 p1 p2 p3 p4 Qm M34) ∧ (p1 < 29 → ((¬ p2 = 0 → wp_X6_put_130 u0 p1 p2 p3 p4 Qm M34) ∧ (p2 = 0 → (0 ≤ p1 ∧ p1 < 29) ∧ ∀ M37 : Mem, M37 = up M34 45 u0 p1 ((M 7 u0 1) - 1) → wp_X6_put_130 u0 p1 p2 p3 p4 Qm M37))))))) ∧ (904 ≤ ((M 7 u0 1) - 1) → wp_X6_put_31 u0 p1 p2 p3 p4 Qm M)))))) := hw
  refine lv_aload_n X.1.1 X.1.2.1 dX6_put_0 rfl (lv_at hl 0 rfl) ?_
  refine gt_7_1 X hR hu0 kw_242 dX6_put_1 ?_
  have r1 := hR.r 7 u0 1
  refine sa_const X.1 dX6_put_4 ?_
  have c2 := hw.1
  have hw := hw.2
  refine sa_isub X.1 dX6_put_5 ?_
  refine lv_istore (lv' := [(5, .int (Int32.ofInt ((M 7 u0 1) - 1))), (0, .ref (α 7 u0)), (1, .int (Int32.ofInt p1)), (2, .int (Int32.ofInt p2)), (3, .int (Int32.ofInt p3)), (4, .int (Int32.ofInt p4))]) X.1.1 X.1.2.1 dX6_put_6 hl (by decide) rfl (fun ls hl => ?_)
  refine lv_aload_n X.1.1 X.1.2.1 dX6_put_8 rfl (lv_at hl 1 rfl) ?_
  refine gt_7_2 X hR hu0 kw_245 dX6_put_9 ?_
  have r3 := hR.r 7 u0 2
  refine sa_sipush X.1 dX6_put_12 (by decide) ?_
  refine sa_icmp_ge (tgt := 31) X.1 r3 (inR_c (a := 904) rfl) dX6_put_15 (by decide) (fun hc => ?_) (fun hc => ?_)
  · have hw := hw.1 hc
    exact t_X6_put_31 X hu0 hp1 hp2 hp3 hp4 _ hw _ _ hR hS _ (lv_sub hl [] rfl)
  · have hw := hw.2 hc
    refine lv_iload X.1.1 X.1.2.1 dX6_put_18 (lv_at hl 0 rfl) ?_
    refine sa_if_lt (tgt := 31) X.1 c2 dX6_put_20 (by decide) (fun hc => ?_) (fun hc => ?_)
    · have hw := hw.1 hc
      exact t_X6_put_31 X hu0 hp1 hp2 hp3 hp4 _ hw _ _ hR hS _ (lv_sub hl [] rfl)
    · have hw := hw.2 hc
      refine lv_iload X.1.1 X.1.2.1 dX6_put_23 (lv_at hl 0 rfl) ?_
      refine sa_sipush X.1 dX6_put_25 (by decide) ?_
      refine sa_icmp_lt (tgt := 32) X.1 c2 (inR_c (a := 904) rfl) dX6_put_28 (by decide) (fun hc => ?_) (fun hc => ?_)
      · have hw := hw.1 hc
        refine lv_aload_n X.1.1 X.1.2.1 dX6_put_32 rfl (lv_at hl 1 rfl) ?_
        refine gt_7_4 X hR hu0 kw_247 dX6_put_33 ?_
        refine lv_aload_n X.1.1 X.1.2.1 dX6_put_36 rfl (lv_at hl 1 rfl) ?_
        refine gt_7_2 X hR hu0 kw_245 dX6_put_37 ?_
        have r4 := hR.r 7 u0 2
        refine lv_iload_n X.1.1 X.1.2.1 dX6_put_40 rfl (lv_at hl 2 rfl) ?_
        have c5 := hw.1
        have hw := hw.2
        refine wa_38 X hR hS (okp X.2.2.1 rfl (pr_7 X.2.2.1 hu0)) c5 hp1 dX6_put_41 (fun H locs hR hS => ?_)
        obtain ⟨M6, e7⟩ : ∃ z : Mem, z = up M 38 u0 (M 7 u0 2) p1 := ⟨_, rfl⟩
        rw [← e7] at hR
        have hw := hw M6 e7
        refine lv_aload_n X.1.1 X.1.2.1 dX6_put_42 rfl (lv_at hl 1 rfl) ?_
        refine gt_7_5 X hR hu0 kw_248 dX6_put_43 ?_
        refine lv_aload_n X.1.1 X.1.2.1 dX6_put_46 rfl (lv_at hl 1 rfl) ?_
        refine gt_7_2 X hR hu0 kw_245 dX6_put_47 ?_
        have r8 := hR.r 7 u0 2
        refine lv_iload_n X.1.1 X.1.2.1 dX6_put_50 rfl (lv_at hl 3 rfl) ?_
        have c9 := hw.1
        have hw := hw.2
        refine wa_39 X hR hS (okp X.2.2.1 rfl (pr_7 X.2.2.1 hu0)) c9 hp2 dX6_put_51 (fun H locs hR hS => ?_)
        obtain ⟨M10, e11⟩ : ∃ z : Mem, z = up M6 39 u0 (M6 7 u0 2) p2 := ⟨_, rfl⟩
        rw [← e11] at hR
        have hw := hw M10 e11
        refine lv_aload_n X.1.1 X.1.2.1 dX6_put_52 rfl (lv_at hl 1 rfl) ?_
        refine gt_7_6 X hR hu0 kw_249 dX6_put_53 ?_
        refine lv_aload_n X.1.1 X.1.2.1 dX6_put_56 rfl (lv_at hl 1 rfl) ?_
        refine gt_7_2 X hR hu0 kw_245 dX6_put_57 ?_
        have r12 := hR.r 7 u0 2
        refine lv_iload_n X.1.1 X.1.2.1 dX6_put_60 rfl (lv_at hl 4 rfl) ?_
        have c13 := hw.1
        have hw := hw.2
        refine wa_40 X hR hS (okp X.2.2.1 rfl (pr_7 X.2.2.1 hu0)) c13 hp3 dX6_put_61 (fun H locs hR hS => ?_)
        obtain ⟨M14, e15⟩ : ∃ z : Mem, z = up M10 40 u0 (M10 7 u0 2) p3 := ⟨_, rfl⟩
        rw [← e15] at hR
        have hw := hw M14 e15
        refine lv_aload_n X.1.1 X.1.2.1 dX6_put_62 rfl (lv_at hl 1 rfl) ?_
        refine lv_dup X.1.1 X.1.2.1 dX6_put_63 rfl ?_
        refine gt_7_2 X hR hu0 kw_245 dX6_put_64 ?_
        have r16 := hR.r 7 u0 2
        refine sa_const X.1 dX6_put_67 ?_
        have c17 := hw.1
        have hw := hw.2
        refine sa_iadd X.1 dX6_put_68 ?_
        refine pt_7_2 X hR hS hu0 c17 kw_245 dX6_put_69 (fun H locs hR hS => ?_)
        obtain ⟨M18, e19⟩ : ∃ z : Mem, z = up M14 7 u0 2 ((M14 7 u0 2) + 1) := ⟨_, rfl⟩
        rw [← e19] at hR
        have hw := hw M18 e19
        refine lv_aload_n X.1.1 X.1.2.1 dX6_put_72 rfl (lv_at hl 1 rfl) ?_
        refine gt_7_8 X hR hu0 kw_251 dX6_put_73 ?_
        refine lv_iload X.1.1 X.1.2.1 dX6_put_76 (lv_at hl 0 rfl) ?_
        refine lv_dup2_11 X.1.1 X.1.2.1 dX6_put_78 rfl rfl ?_
        have c20 := hw.1
        have hw := hw.2
        refine ra_42 X hR (okp X.2.2.1 rfl (pr_7 X.2.2.1 hu0)) c20 dX6_put_79 ?_
        have r21 := hR.r 42 u0 ((M 7 u0 1) - 1)
        refine lv_iload_n X.1.1 X.1.2.1 dX6_put_80 rfl (lv_at hl 4 rfl) ?_
        refine lv_iload X.1.1 X.1.2.1 dX6_put_81 (lv_at hl 5 rfl) ?_
        have c22 := hw.1
        have hw := hw.2
        refine sa_iadd X.1 dX6_put_83 ?_
        have c23 := hw.1
        have hw := hw.2
        refine sa_iadd X.1 dX6_put_84 ?_
        have c24 := hw.1
        have hw := hw.2
        refine wa_42 X hR hS (okp X.2.2.1 rfl (pr_7 X.2.2.1 hu0)) c24 c23 dX6_put_85 (fun H locs hR hS => ?_)
        obtain ⟨M25, e26⟩ : ∃ z : Mem, z = up M18 42 u0 ((M 7 u0 1) - 1) ((M18 42 u0 ((M 7 u0 1) - 1)) + (p3 + p4)) := ⟨_, rfl⟩
        rw [← e26] at hR
        have hw := hw M25 e26
        refine lv_aload_n X.1.1 X.1.2.1 dX6_put_86 rfl (lv_at hl 1 rfl) ?_
        refine gt_7_9 X hR hu0 kw_253 dX6_put_87 ?_
        refine lv_iload X.1.1 X.1.2.1 dX6_put_90 (lv_at hl 0 rfl) ?_
        refine lv_dup2_11 X.1.1 X.1.2.1 dX6_put_92 rfl rfl ?_
        have c27 := hw.1
        have hw := hw.2
        refine ra_43 X hR (okp X.2.2.1 rfl (pr_7 X.2.2.1 hu0)) c27 dX6_put_93 ?_
        have r28 := hR.r 43 u0 ((M 7 u0 1) - 1)
        refine lv_iload_n X.1.1 X.1.2.1 dX6_put_94 rfl (lv_at hl 2 rfl) ?_
        refine sa_bipush X.1 dX6_put_95 (by decide) ?_
        have r29 := inR_ite (c := ¬ p1 = 65) hp4 hp3
        refine cut_j (A := ∀ v30 : Int, v30 = (if ¬ p1 = 65 then p4 else p3) → WV p l e 0 s m args below meth c G e0 α κ B Qm H locs 106 ls [.int (Int32.ofInt v30), .int (Int32.ofInt (M25 43 u0 ((M 7 u0 1) - 1))), .int (Int32.ofInt ((M 7 u0 1) - 1)), .ref (α 43 u0)]) (fun J31 => ?_) ?_
        · refine sa_icmp_ne (tgt := 104) X.1 hp1 (inR_c (a := 65) rfl) dX6_put_97 (by decide) (fun hc => ?_) (fun hc => ?_)
          · skip
            refine lv_iload X.1.1 X.1.2.1 dX6_put_104 (lv_at hl 5 rfl) ?_
            exact J31 (p4) (if_pos (c := ¬ p1 = 65) hc).symm
          · skip
            refine lv_iload_n X.1.1 X.1.2.1 dX6_put_100 rfl (lv_at hl 4 rfl) ?_
            refine lv_goto (tgt := 106) X.1.1 X.1.2.1 dX6_put_101 (by decide) ?_
            exact J31 (p3) (if_neg (c := ¬ p1 = 65) (fun z => z hc)).symm
        intro v30 hv30
        subst hv30
        have c32 := hw.1
        have hw := hw.2
        refine sa_iadd X.1 dX6_put_106 ?_
        have c33 := hw.1
        have hw := hw.2
        refine wa_43 X hR hS (okp X.2.2.1 rfl (pr_7 X.2.2.1 hu0)) c33 c32 dX6_put_107 (fun H locs hR hS => ?_)
        obtain ⟨M34, e35⟩ : ∃ z : Mem, z = up M25 43 u0 ((M 7 u0 1) - 1) ((M25 43 u0 ((M 7 u0 1) - 1)) + (if ¬ p1 = 65 then p4 else p3)) := ⟨_, rfl⟩
        rw [← e35] at hR
        have hw := hw M34 e35
        refine lv_iload_n X.1.1 X.1.2.1 dX6_put_108 rfl (lv_at hl 2 rfl) ?_
        refine sa_if_lt (tgt := 130) X.1 hp1 dX6_put_109 (by decide) (fun hc => ?_) (fun hc => ?_)
        · have hw := hw.1 hc
          exact t_X6_put_130 X hu0 hp1 hp2 hp3 hp4 _ hw _ _ hR hS _ (lv_sub hl [] rfl)
        · have hw := hw.2 hc
          refine lv_iload_n X.1.1 X.1.2.1 dX6_put_112 rfl (lv_at hl 2 rfl) ?_
          refine sa_bipush X.1 dX6_put_113 (by decide) ?_
          refine sa_icmp_ge (tgt := 130) X.1 hp1 (inR_c (a := 29) rfl) dX6_put_115 (by decide) (fun hc => ?_) (fun hc => ?_)
          · have hw := hw.1 hc
            exact t_X6_put_130 X hu0 hp1 hp2 hp3 hp4 _ hw _ _ hR hS _ (lv_sub hl [] rfl)
          · have hw := hw.2 hc
            refine lv_iload_n X.1.1 X.1.2.1 dX6_put_118 rfl (lv_at hl 3 rfl) ?_
            refine sa_if_ne (tgt := 130) X.1 hp2 dX6_put_119 (by decide) (fun hc => ?_) (fun hc => ?_)
            · have hw := hw.1 hc
              exact t_X6_put_130 X hu0 hp1 hp2 hp3 hp4 _ hw _ _ hR hS _ (lv_sub hl [] rfl)
            · have hw := hw.2 hc
              refine lv_aload_n X.1.1 X.1.2.1 dX6_put_122 rfl (lv_at hl 1 rfl) ?_
              refine gt_7_11 X hR hu0 kw_256 dX6_put_123 ?_
              refine lv_iload_n X.1.1 X.1.2.1 dX6_put_126 rfl (lv_at hl 2 rfl) ?_
              refine lv_iload X.1.1 X.1.2.1 dX6_put_127 (lv_at hl 0 rfl) ?_
              have c36 := hw.1
              have hw := hw.2
              refine wa_45 X hR hS (okp X.2.2.1 rfl (pr_7 X.2.2.1 hu0)) c36 c2 dX6_put_129 (fun H locs hR hS => ?_)
              obtain ⟨M37, e38⟩ : ∃ z : Mem, z = up M34 45 u0 p1 ((M 7 u0 1) - 1) := ⟨_, rfl⟩
              rw [← e38] at hR
              have hw := hw M37 e38
              exact t_X6_put_130 X hu0 hp1 hp2 hp3 hp4 _ hw _ _ hR hS _ (lv_sub hl [] rfl)
      · have hw := hw.2 hc
        exact t_X6_put_31 X hu0 hp1 hp2 hp3 hp4 _ hw _ _ hR hS _ (lv_sub hl [] rfl)
theorem m_X6_put {l : Launch} {G : Gx} {e0 : Nat} {α : Ax} {κ : Nat → Int} {B : Nat} {u0 : Int} {p1 : Int} {p2 : Int} {p3 : Int} {p4 : Int} (hκ : kOK κ) (hu0 : okk κ 7 u0) (hp1 : inR p1) (hp2 : inR p2) (hp3 : inR p3) (hp4 : inR p4) {M : Mem} {Qm : Mem → Prop} (hw : wp_X6_put u0 p1 p2 p3 p4 M Qm) : CV l yX6_put (Cond.code yX6_put cX6_put 6 none) 0 G e0 α κ B [.ref (α 7 u0), .int (Int32.ofInt p1), .int (Int32.ofInt p2), .int (Int32.ofInt p3), .int (Int32.ofInt p4)] M Qm :=
  CV.mk hκ (by decide +kernel) rfl (Nat.le_of_ble_eq_true rfl) (lv := [(0, .ref (α 7 u0)), (1, .int (Int32.ofInt p1)), (2, .int (Int32.ofInt p2)), (3, .int (Int32.ofInt p3)), (4, .int (Int32.ofInt p4))]) rfl (fun p e s m args below meth c ls X hR hS hl => t_X6_put X hu0 hp1 hp2 hp3 hp4 hw _ _ hR hS ls hl)
theorem cs_X6_put {cc : ByteArray} {nL : Nat} {own : String} {ret : Option FieldType} {idx pc : Nat} {u0 : Int} {p1 : Int} {p2 : Int} {p3 : Int} {p4 : Int} (X : CX p m c cc nL s args own G B κ meth ret) (hu0 : okk κ 7 u0) (hp1 : inR p1) (hp2 : inR p2) (hp3 : inR p3) (hp4 : inR p4) {kc : Nat} {R : Room} {cells slots : Nat} (hRr : RmOK R kc) (hcel : cells ≤ R.cells ∧ slots ≤ R.slots) (hk : 0 + 1 ≤ kc) {M : Mem} {H : Heap} {locs : List Loc} (hR : Rp G e0 α κ B M H) (hS : va_S (fun q => B ≤ q) s.heap H locs) (k1 : Cond.methodLink own idx yX6_put ∈ gw) {ls : Array Slot} (hml : ls.size = nL) {rest : List Value} (hd : decode cc pc = .ok (.invokevirtual idx, 3)) (hrest : (rest.map fun v => v.category).sum ≤ 8) {Q : State → Prop} {Qm : Mem → Prop} (hw : wp_X6_put u0 p1 p2 p3 p4 M Qm) (kk : ∀ (M1 : Mem) (H1 : Heap) (locs1 : List Loc), Qm M1 → Rp G e0 α κ B M1 H1 → va_S (fun q => B ≤ q) s.heap H1 locs1 → W p l e R s m args below meth c H1 locs1 cells slots Q (F0 m (pc + 3) ls (rest))) : W p l e R s m args below meth c H locs cells slots Q (F0 m pc ls (.int (Int32.ofInt p4) :: .int (Int32.ofInt p3) :: .int (Int32.ofInt p2) :: .int (Int32.ofInt p1) :: .ref (α 7 u0) :: rest)) :=
  sa_callVV 0 (n := 4) (As := [.int (Int32.ofInt p1), .int (Int32.ofInt p2), .int (Int32.ofInt p3), .int (Int32.ofInt p4)]) (rest := rest) X.1 X.2.1 hR hS (m_X6_put X.2.2.1 hu0 hp1 hp2 hp3 hp4 hw) k1 kw_602 kw_603 kw_46 kw_604 ⟨rfl, by decide +kernel, by decide +kernel, by decide +kernel⟩ (rm_ok hRr hk (by decide)) (rc_7 X hR hu0) rfl rfl hrest hml hd hcel kk
def wp_X6_pieceBeginOf (u0 : Int) (p1 : Int) (M : Mem) (Qm : Int → Mem → Prop) : Prop := wp_X6_hasPage u0 p1 M fun (x2 : Int) (M1 : Mem) => (¬ x2 = 0 → (0 ≤ p1 ∧ p1 < 904) ∧ True) ∧ Qm (if x2 = 0 then (M1 7 u0 2) else (M1 41 u0 p1)) M1
set_option maxHeartbeats 4000000 in
set_option maxRecDepth 100000 in
theorem t_X6_pieceBeginOf {u0 : Int} {p1 : Int} (X : CX p m c cX6_pieceBeginOf 2 s args RX6 G B κ meth (some .int)) (hu0 : okk κ 7 u0) (hp1 : inR p1) {M : Mem} {Qm : Int → Mem → Prop} (hw : wp_X6_pieceBeginOf u0 p1 M Qm) (H : Heap) (locs : List Loc) (hR : Rp G e0 α κ B M H) (hS : va_S (fun q => B ≤ q) s.heap H locs) (ls : Array Slot) (hl : lv_has ls 2 [(0, .ref (α 7 u0)), (1, .int (Int32.ofInt p1))]) : WI p l e 1 s m args below meth c G e0 α κ B Qm H locs 0 ls [] := by
  have hw : wp_X6_hasPage u0 p1 M fun (x2 : Int) (M1 : Mem) => (¬ x2 = 0 → (0 ≤ p1 ∧ p1 < 904) ∧ True) ∧ Qm (if x2 = 0 then (M1 7 u0 2) else (M1 41 u0 p1)) M1 := hw
  refine lv_aload_n X.1.1 X.1.2.1 dX6_pieceBeginOf_0 rfl (lv_at hl 0 rfl) ?_
  refine lv_iload_n X.1.1 X.1.2.1 dX6_pieceBeginOf_1 rfl (lv_at hl 1 rfl) ?_
  refine cs_X6_hasPage X hu0 hp1 (kc := 1) rmL_ok rm_c (by decide) hR hS kw_622 hl.1 dX6_pieceBeginOf_2 (Nat.le_of_ble_eq_true rfl) hw (fun x2 M1 H locs hw r3 hR hS => ?_)
  have s5 := hw.1
  have hw := hw.2
  have r6 := inR_ite (c := x2 = 0) (hR.r 7 u0 2) (hR.r 41 u0 p1)
  refine cut_j (A := ∀ v7 : Int, v7 = (if x2 = 0 then (M1 7 u0 2) else (M1 41 u0 p1)) → WI p l e 1 s m args below meth c G e0 α κ B Qm H locs 21 ls [.int (Int32.ofInt v7)]) (fun J8 => ?_) ?_
  · refine sa_if_eq (tgt := 17) X.1 r3 dX6_pieceBeginOf_5 (by decide) (fun hc => ?_) (fun hc => ?_)
    · skip
      refine lv_aload_n X.1.1 X.1.2.1 dX6_pieceBeginOf_17 rfl (lv_at hl 0 rfl) ?_
      refine gt_7_2 X hR hu0 kw_245 dX6_pieceBeginOf_18 ?_
      exact J8 ((M1 7 u0 2)) (if_pos (c := x2 = 0) hc).symm
    · have hw := s5 hc
      refine lv_aload_n X.1.1 X.1.2.1 dX6_pieceBeginOf_8 rfl (lv_at hl 0 rfl) ?_
      refine gt_7_7 X hR hu0 kw_250 dX6_pieceBeginOf_9 ?_
      refine lv_iload_n X.1.1 X.1.2.1 dX6_pieceBeginOf_12 rfl (lv_at hl 1 rfl) ?_
      have c4 := hw.1
      have hw := hw.2
      refine ra_41 X hR (okp X.2.2.1 rfl (pr_7 X.2.2.1 hu0)) c4 dX6_pieceBeginOf_13 ?_
      refine lv_goto (tgt := 21) X.1.1 X.1.2.1 dX6_pieceBeginOf_14 (by decide) ?_
      exact J8 ((M1 41 u0 p1)) (if_neg (c := x2 = 0) hc).symm
  intro v7 hv7
  subst hv7
  exact sa_iret X.1 X.2.2.2.1 X.2.2.2.2 hR hS r6 hw dX6_pieceBeginOf_21
theorem m_X6_pieceBeginOf {l : Launch} {G : Gx} {e0 : Nat} {α : Ax} {κ : Nat → Int} {B : Nat} {u0 : Int} {p1 : Int} (hκ : kOK κ) (hu0 : okk κ 7 u0) (hp1 : inR p1) {M : Mem} {Qm : Int → Mem → Prop} (hw : wp_X6_pieceBeginOf u0 p1 M Qm) : CI l yX6_pieceBeginOf (Cond.code yX6_pieceBeginOf cX6_pieceBeginOf 2 (some .int)) 1 G e0 α κ B [.ref (α 7 u0), .int (Int32.ofInt p1)] M Qm :=
  CI.mk hκ (by decide +kernel) rfl (Nat.le_of_ble_eq_true rfl) (lv := [(0, .ref (α 7 u0)), (1, .int (Int32.ofInt p1))]) rfl (fun p e s m args below meth c ls X hR hS hl => t_X6_pieceBeginOf X hu0 hp1 hw _ _ hR hS ls hl)
theorem cs_X6_pieceBeginOf {cc : ByteArray} {nL : Nat} {own : String} {ret : Option FieldType} {idx pc : Nat} {u0 : Int} {p1 : Int} (X : CX p m c cc nL s args own G B κ meth ret) (hu0 : okk κ 7 u0) (hp1 : inR p1) {kc : Nat} {R : Room} {cells slots : Nat} (hRr : RmOK R kc) (hcel : cells ≤ R.cells ∧ slots ≤ R.slots) (hk : 1 + 1 ≤ kc) {M : Mem} {H : Heap} {locs : List Loc} (hR : Rp G e0 α κ B M H) (hS : va_S (fun q => B ≤ q) s.heap H locs) (k1 : Cond.methodLink own idx yX6_pieceBeginOf ∈ gw) {ls : Array Slot} (hml : ls.size = nL) {rest : List Value} (hd : decode cc pc = .ok (.invokevirtual idx, 3)) (hrest : (rest.map fun v => v.category).sum ≤ 8) {Q : State → Prop} {Qm : Int → Mem → Prop} (hw : wp_X6_pieceBeginOf u0 p1 M Qm) (kk : ∀ (r : Int) (M1 : Mem) (H1 : Heap) (locs1 : List Loc), Qm r M1 → inR r → Rp G e0 α κ B M1 H1 → va_S (fun q => B ≤ q) s.heap H1 locs1 → W p l e R s m args below meth c H1 locs1 cells slots Q (F0 m (pc + 3) ls (.int (Int32.ofInt r) :: rest))) : W p l e R s m args below meth c H locs cells slots Q (F0 m pc ls (.int (Int32.ofInt p1) :: .ref (α 7 u0) :: rest)) :=
  sa_callVI 1 (n := 1) (As := [.int (Int32.ofInt p1)]) (rest := rest) X.1 X.2.1 hR hS (m_X6_pieceBeginOf X.2.2.1 hu0 hp1 hw) k1 kw_631 kw_632 kw_46 kw_633 ⟨rfl, by decide +kernel, by decide +kernel, by decide +kernel⟩ (rm_ok hRr hk (by decide)) (rc_7 X hR hu0) rfl rfl hrest hml hd hcel kk
def wp_X6_pieceEndOf_24 (u0 : Int) (p1 : Int) (Qm : Int → Mem → Prop) (z0 : Int) (M : Mem) : Prop := Qm z0 M
def wp_X6_pieceEndOf (u0 : Int) (p1 : Int) (M : Mem) (Qm : Int → Mem → Prop) : Prop := (inR ((M 7 u0 1) - 1)) ∧ ((((M 7 u0 1) - 1) ≤ p1 → wp_X6_pieceEndOf_24 u0 p1 Qm (M 7 u0 2) M) ∧ (p1 < ((M 7 u0 1) - 1) → (inR (p1 + 1)) ∧ wp_X6_pieceBeginOf u0 (p1 + 1) M fun (x6 : Int) (M5 : Mem) => wp_X6_pieceEndOf_24 u0 p1 Qm x6 M5))
set_option maxHeartbeats 4000000 in
set_option maxRecDepth 100000 in
theorem t_X6_pieceEndOf_24 {u0 : Int} {p1 : Int} (X : CX p m c cX6_pieceEndOf 2 s args RX6 G B κ meth (some .int)) (hu0 : okk κ 7 u0) (hp1 : inR p1) {Qm : Int → Mem → Prop} : ∀ z0 : Int, ∀ M : Mem, wp_X6_pieceEndOf_24 u0 p1 Qm z0 M → inR z0 → ∀ (H : Heap) (locs : List Loc), Rp G e0 α κ B M H → va_S (fun q => B ≤ q) s.heap H locs → ∀ (ls : Array Slot), lv_has ls 2 [] → WI p l e 2 s m args below meth c G e0 α κ B Qm H locs 24 ls [.int (Int32.ofInt z0)] := by
  intro z0 M hw hz0 H locs hR hS ls hl
  have hw : Qm z0 M := hw
  exact sa_iret X.1 X.2.2.2.1 X.2.2.2.2 hR hS hz0 hw dX6_pieceEndOf_24
set_option maxHeartbeats 4000000 in
set_option maxRecDepth 100000 in
theorem t_X6_pieceEndOf {u0 : Int} {p1 : Int} (X : CX p m c cX6_pieceEndOf 2 s args RX6 G B κ meth (some .int)) (hu0 : okk κ 7 u0) (hp1 : inR p1) {M : Mem} {Qm : Int → Mem → Prop} (hw : wp_X6_pieceEndOf u0 p1 M Qm) (H : Heap) (locs : List Loc) (hR : Rp G e0 α κ B M H) (hS : va_S (fun q => B ≤ q) s.heap H locs) (ls : Array Slot) (hl : lv_has ls 2 [(0, .ref (α 7 u0)), (1, .int (Int32.ofInt p1))]) : WI p l e 2 s m args below meth c G e0 α κ B Qm H locs 0 ls [] := by
  have hw : (inR ((M 7 u0 1) - 1)) ∧ ((((M 7 u0 1) - 1) ≤ p1 → wp_X6_pieceEndOf_24 u0 p1 Qm (M 7 u0 2) M) ∧ (p1 < ((M 7 u0 1) - 1) → (inR (p1 + 1)) ∧ wp_X6_pieceBeginOf u0 (p1 + 1) M fun (x6 : Int) (M5 : Mem) => wp_X6_pieceEndOf_24 u0 p1 Qm x6 M5)) := hw
  refine lv_iload_n X.1.1 X.1.2.1 dX6_pieceEndOf_0 rfl (lv_at hl 1 rfl) ?_
  refine lv_aload_n X.1.1 X.1.2.1 dX6_pieceEndOf_1 rfl (lv_at hl 0 rfl) ?_
  refine gt_7_1 X hR hu0 kw_242 dX6_pieceEndOf_2 ?_
  have r1 := hR.r 7 u0 1
  refine sa_const X.1 dX6_pieceEndOf_5 ?_
  have c2 := hw.1
  have hw := hw.2
  refine sa_isub X.1 dX6_pieceEndOf_6 ?_
  refine sa_icmp_ge (tgt := 20) X.1 hp1 c2 dX6_pieceEndOf_7 (by decide) (fun hc => ?_) (fun hc => ?_)
  · have hw := hw.1 hc
    refine lv_aload_n X.1.1 X.1.2.1 dX6_pieceEndOf_20 rfl (lv_at hl 0 rfl) ?_
    refine gt_7_2 X hR hu0 kw_245 dX6_pieceEndOf_21 ?_
    have r3 := hR.r 7 u0 2
    exact t_X6_pieceEndOf_24 X hu0 hp1 _ _ hw r3 _ _ hR hS _ (lv_sub hl [] rfl)
  · have hw := hw.2 hc
    refine lv_aload_n X.1.1 X.1.2.1 dX6_pieceEndOf_10 rfl (lv_at hl 0 rfl) ?_
    refine lv_iload_n X.1.1 X.1.2.1 dX6_pieceEndOf_11 rfl (lv_at hl 1 rfl) ?_
    refine sa_const X.1 dX6_pieceEndOf_12 ?_
    have c4 := hw.1
    have hw := hw.2
    refine sa_iadd X.1 dX6_pieceEndOf_13 ?_
    refine cs_X6_pieceBeginOf X hu0 c4 (kc := 2) rmL_ok rm_c (by decide) hR hS kw_630 hl.1 dX6_pieceEndOf_14 (Nat.le_of_ble_eq_true rfl) hw (fun x6 M5 H locs hw r7 hR hS => ?_)
    refine lv_goto (tgt := 24) X.1.1 X.1.2.1 dX6_pieceEndOf_17 (by decide) ?_
    exact t_X6_pieceEndOf_24 X hu0 hp1 _ _ hw r7 _ _ hR hS _ (lv_sub hl [] rfl)
theorem m_X6_pieceEndOf {l : Launch} {G : Gx} {e0 : Nat} {α : Ax} {κ : Nat → Int} {B : Nat} {u0 : Int} {p1 : Int} (hκ : kOK κ) (hu0 : okk κ 7 u0) (hp1 : inR p1) {M : Mem} {Qm : Int → Mem → Prop} (hw : wp_X6_pieceEndOf u0 p1 M Qm) : CI l yX6_pieceEndOf (Cond.code yX6_pieceEndOf cX6_pieceEndOf 2 (some .int)) 2 G e0 α κ B [.ref (α 7 u0), .int (Int32.ofInt p1)] M Qm :=
  CI.mk hκ (by decide +kernel) rfl (Nat.le_of_ble_eq_true rfl) (lv := [(0, .ref (α 7 u0)), (1, .int (Int32.ofInt p1))]) rfl (fun p e s m args below meth c ls X hR hS hl => t_X6_pieceEndOf X hu0 hp1 hw _ _ hR hS ls hl)
theorem cs_X6_pieceEndOf {cc : ByteArray} {nL : Nat} {own : String} {ret : Option FieldType} {idx pc : Nat} {u0 : Int} {p1 : Int} (X : CX p m c cc nL s args own G B κ meth ret) (hu0 : okk κ 7 u0) (hp1 : inR p1) {kc : Nat} {R : Room} {cells slots : Nat} (hRr : RmOK R kc) (hcel : cells ≤ R.cells ∧ slots ≤ R.slots) (hk : 2 + 1 ≤ kc) {M : Mem} {H : Heap} {locs : List Loc} (hR : Rp G e0 α κ B M H) (hS : va_S (fun q => B ≤ q) s.heap H locs) (k1 : Cond.methodLink own idx yX6_pieceEndOf ∈ gw) {ls : Array Slot} (hml : ls.size = nL) {rest : List Value} (hd : decode cc pc = .ok (.invokevirtual idx, 3)) (hrest : (rest.map fun v => v.category).sum ≤ 8) {Q : State → Prop} {Qm : Int → Mem → Prop} (hw : wp_X6_pieceEndOf u0 p1 M Qm) (kk : ∀ (r : Int) (M1 : Mem) (H1 : Heap) (locs1 : List Loc), Qm r M1 → inR r → Rp G e0 α κ B M1 H1 → va_S (fun q => B ≤ q) s.heap H1 locs1 → W p l e R s m args below meth c H1 locs1 cells slots Q (F0 m (pc + 3) ls (.int (Int32.ofInt r) :: rest))) : W p l e R s m args below meth c H locs cells slots Q (F0 m pc ls (.int (Int32.ofInt p1) :: .ref (α 7 u0) :: rest)) :=
  sa_callVI 2 (n := 1) (As := [.int (Int32.ofInt p1)]) (rest := rest) X.1 X.2.1 hR hS (m_X6_pieceEndOf X.2.2.1 hu0 hp1 hw) k1 kw_627 kw_628 kw_46 kw_629 ⟨rfl, by decide +kernel, by decide +kernel, by decide +kernel⟩ (rm_ok hRr hk (by decide)) (rc_7 X hR hu0) rfl rfl hrest hml hd hcel kk
end
