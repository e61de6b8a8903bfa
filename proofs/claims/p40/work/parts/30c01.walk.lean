theorem dX9_notesAtEnd_0 : decode cX9_notesAtEnd 0 = .ok (.aload_n 0, 1) := by decide +kernel
theorem dX9_notesAtEnd_1 : decode cX9_notesAtEnd 1 = .ok (.iconst 1, 1) := by decide +kernel
theorem dX9_notesAtEnd_2 : decode cX9_notesAtEnd 2 = .ok (.putfield 65, 3) := by decide +kernel
theorem dX9_notesAtEnd_5 : decode cX9_notesAtEnd 5 = .ok (.aload_n 0, 1) := by decide +kernel
theorem dX9_notesAtEnd_6 : decode cX9_notesAtEnd 6 = .ok (.aload_n 0, 1) := by decide +kernel
theorem dX9_notesAtEnd_7 : decode cX9_notesAtEnd 7 = .ok (.getfield 203, 3) := by decide +kernel
theorem dX9_notesAtEnd_10 : decode cX9_notesAtEnd 10 = .ok (.ifCond .ne 7, 3) := by decide +kernel
theorem dX9_notesAtEnd_13 : decode cX9_notesAtEnd 13 = .ok (.iconst 1, 1) := by decide +kernel
theorem dX9_notesAtEnd_14 : decode cX9_notesAtEnd 14 = .ok (.goto 4, 3) := by decide +kernel
theorem dX9_notesAtEnd_17 : decode cX9_notesAtEnd 17 = .ok (.iconst 0, 1) := by decide +kernel
theorem dX9_notesAtEnd_18 : decode cX9_notesAtEnd 18 = .ok (.putfield 203, 3) := by decide +kernel
theorem dX9_notesAtEnd_21 : decode cX9_notesAtEnd 21 = .ok (.aload_n 0, 1) := by decide +kernel
theorem dX9_notesAtEnd_22 : decode cX9_notesAtEnd 22 = .ok (.getfield 203, 3) := by decide +kernel
theorem dX9_notesAtEnd_25 : decode cX9_notesAtEnd 25 = .ok (.ireturn, 1) := by decide +kernel
theorem dX9_isFigure_0 : decode cX9_isFigure 0 = .ok (.iload_n 0, 1) := by decide +kernel
theorem dX9_isFigure_1 : decode cX9_isFigure 1 = .ok (.ldc_w 443, 3) := by decide +kernel
theorem dX9_isFigure_4 : decode cX9_isFigure 4 = .ok (.if_icmp .lt 10, 3) := by decide +kernel
theorem dX9_isFigure_7 : decode cX9_isFigure 7 = .ok (.iload_n 0, 1) := by decide +kernel
theorem dX9_isFigure_8 : decode cX9_isFigure 8 = .ok (.ldc_w 444, 3) := by decide +kernel
theorem dX9_isFigure_11 : decode cX9_isFigure 11 = .ok (.if_icmp .le 5, 3) := by decide +kernel
theorem dX9_isFigure_14 : decode cX9_isFigure 14 = .ok (.iconst 0, 1) := by decide +kernel
theorem dX9_isFigure_15 : decode cX9_isFigure 15 = .ok (.ireturn, 1) := by decide +kernel
theorem dX9_isFigure_16 : decode cX9_isFigure 16 = .ok (.iload_n 1, 1) := by decide +kernel
theorem dX9_isFigure_17 : decode cX9_isFigure 17 = .ok (.ifCond .lt 8, 3) := by decide +kernel
theorem dX9_isFigure_20 : decode cX9_isFigure 20 = .ok (.iload_n 1, 1) := by decide +kernel
theorem dX9_isFigure_21 : decode cX9_isFigure 21 = .ok (.iconst 2, 1) := by decide +kernel
theorem dX9_isFigure_22 : decode cX9_isFigure 22 = .ok (.if_icmp .le 5, 3) := by decide +kernel
theorem dX9_isFigure_25 : decode cX9_isFigure 25 = .ok (.iconst 0, 1) := by decide +kernel
theorem dX9_isFigure_26 : decode cX9_isFigure 26 = .ok (.ireturn, 1) := by decide +kernel
theorem dX9_isFigure_27 : decode cX9_isFigure 27 = .ok (.iload_n 1, 1) := by decide +kernel
theorem dX9_isFigure_28 : decode cX9_isFigure 28 = .ok (.ifCond .ne 8, 3) := by decide +kernel
theorem dX9_isFigure_31 : decode cX9_isFigure 31 = .ok (.bipush 100, 2) := by decide +kernel
theorem dX9_isFigure_33 : decode cX9_isFigure 33 = .ok (.goto 14, 3) := by decide +kernel
theorem dX9_isFigure_36 : decode cX9_isFigure 36 = .ok (.iload_n 1, 1) := by decide +kernel
theorem dX9_isFigure_37 : decode cX9_isFigure 37 = .ok (.iconst 1, 1) := by decide +kernel
theorem dX9_isFigure_38 : decode cX9_isFigure 38 = .ok (.if_icmp .ne 8, 3) := by decide +kernel
theorem dX9_isFigure_41 : decode cX9_isFigure 41 = .ok (.bipush 10, 2) := by decide +kernel
theorem dX9_isFigure_43 : decode cX9_isFigure 43 = .ok (.goto 4, 3) := by decide +kernel
theorem dX9_isFigure_46 : decode cX9_isFigure 46 = .ok (.iconst 1, 1) := by decide +kernel
theorem dX9_isFigure_47 : decode cX9_isFigure 47 = .ok (.istore_n 2, 1) := by decide +kernel
theorem dX9_isFigure_48 : decode cX9_isFigure 48 = .ok (.iload_n 0, 1) := by decide +kernel
theorem dX9_isFigure_49 : decode cX9_isFigure 49 = .ok (.iload_n 2, 1) := by decide +kernel
theorem dX9_isFigure_50 : decode cX9_isFigure 50 = .ok (.irem, 1) := by decide +kernel
theorem dX9_isFigure_51 : decode cX9_isFigure 51 = .ok (.ifCond .ne 7, 3) := by decide +kernel
theorem dX9_isFigure_54 : decode cX9_isFigure 54 = .ok (.iconst 1, 1) := by decide +kernel
theorem dX9_isFigure_55 : decode cX9_isFigure 55 = .ok (.goto 4, 3) := by decide +kernel
theorem dX9_isFigure_58 : decode cX9_isFigure 58 = .ok (.iconst 0, 1) := by decide +kernel
theorem dX9_isFigure_59 : decode cX9_isFigure 59 = .ok (.ireturn, 1) := by decide +kernel
theorem dX9_hasSide_0 : decode cX9_hasSide 0 = .ok (.iload_n 0, 1) := by decide +kernel
theorem dX9_hasSide_1 : decode cX9_hasSide 1 = .ok (.tableswitch 73 0 2 #[27, 42, 57], 27) := by decide +kernel
theorem dX9_hasSide_28 : decode cX9_hasSide 28 = .ok (.iload_n 1, 1) := by decide +kernel
theorem dX9_hasSide_29 : decode cX9_hasSide 29 = .ok (.ifCond .lt 12, 3) := by decide +kernel
theorem dX9_hasSide_32 : decode cX9_hasSide 32 = .ok (.iload_n 1, 1) := by decide +kernel
theorem dX9_hasSide_33 : decode cX9_hasSide 33 = .ok (.iconst 3, 1) := by decide +kernel
theorem dX9_hasSide_34 : decode cX9_hasSide 34 = .ok (.if_icmp .gt 7, 3) := by decide +kernel
theorem dX9_hasSide_37 : decode cX9_hasSide 37 = .ok (.iconst 1, 1) := by decide +kernel
theorem dX9_hasSide_38 : decode cX9_hasSide 38 = .ok (.goto 4, 3) := by decide +kernel
theorem dX9_hasSide_41 : decode cX9_hasSide 41 = .ok (.iconst 0, 1) := by decide +kernel
theorem dX9_hasSide_42 : decode cX9_hasSide 42 = .ok (.ireturn, 1) := by decide +kernel
theorem dX9_hasSide_43 : decode cX9_hasSide 43 = .ok (.iload_n 1, 1) := by decide +kernel
theorem dX9_hasSide_44 : decode cX9_hasSide 44 = .ok (.ifCond .eq 8, 3) := by decide +kernel
theorem dX9_hasSide_47 : decode cX9_hasSide 47 = .ok (.iload_n 1, 1) := by decide +kernel
theorem dX9_hasSide_48 : decode cX9_hasSide 48 = .ok (.iconst 2, 1) := by decide +kernel
theorem dX9_hasSide_49 : decode cX9_hasSide 49 = .ok (.if_icmp .ne 7, 3) := by decide +kernel
theorem dX9_hasSide_52 : decode cX9_hasSide 52 = .ok (.iconst 1, 1) := by decide +kernel
theorem dX9_hasSide_53 : decode cX9_hasSide 53 = .ok (.goto 4, 3) := by decide +kernel
theorem dX9_hasSide_56 : decode cX9_hasSide 56 = .ok (.iconst 0, 1) := by decide +kernel
theorem dX9_hasSide_57 : decode cX9_hasSide 57 = .ok (.ireturn, 1) := by decide +kernel
theorem dX9_hasSide_58 : decode cX9_hasSide 58 = .ok (.iload_n 1, 1) := by decide +kernel
theorem dX9_hasSide_59 : decode cX9_hasSide 59 = .ok (.iconst 1, 1) := by decide +kernel
theorem dX9_hasSide_60 : decode cX9_hasSide 60 = .ok (.if_icmp .eq 8, 3) := by decide +kernel
theorem dX9_hasSide_63 : decode cX9_hasSide 63 = .ok (.iload_n 1, 1) := by decide +kernel
theorem dX9_hasSide_64 : decode cX9_hasSide 64 = .ok (.iconst 3, 1) := by decide +kernel
theorem dX9_hasSide_65 : decode cX9_hasSide 65 = .ok (.if_icmp .ne 7, 3) := by decide +kernel
theorem dX9_hasSide_68 : decode cX9_hasSide 68 = .ok (.iconst 1, 1) := by decide +kernel
theorem dX9_hasSide_69 : decode cX9_hasSide 69 = .ok (.goto 4, 3) := by decide +kernel
theorem dX9_hasSide_72 : decode cX9_hasSide 72 = .ok (.iconst 0, 1) := by decide +kernel
theorem dX9_hasSide_73 : decode cX9_hasSide 73 = .ok (.ireturn, 1) := by decide +kernel
theorem dX9_hasSide_74 : decode cX9_hasSide 74 = .ok (.iload_n 0, 1) := by decide +kernel
theorem dX9_hasSide_75 : decode cX9_hasSide 75 = .ok (.iconst 3, 1) := by decide +kernel
theorem dX9_hasSide_76 : decode cX9_hasSide 76 = .ok (.if_icmp .ne 7, 3) := by decide +kernel
theorem dX9_hasSide_79 : decode cX9_hasSide 79 = .ok (.iconst 1, 1) := by decide +kernel
theorem dX9_hasSide_80 : decode cX9_hasSide 80 = .ok (.goto 4, 3) := by decide +kernel
theorem dX9_hasSide_83 : decode cX9_hasSide 83 = .ok (.iconst 0, 1) := by decide +kernel
theorem dX9_hasSide_84 : decode cX9_hasSide 84 = .ok (.ireturn, 1) := by decide +kernel
theorem dX9_strongest_0 : decode cX9_strongest 0 = .ok (.iload_n 0, 1) := by decide +kernel
theorem dX9_strongest_1 : decode cX9_strongest 1 = .ok (.iload_n 1, 1) := by decide +kernel
theorem dX9_strongest_2 : decode cX9_strongest 2 = .ok (.invokestatic 251, 3) := by decide +kernel
theorem dX9_strongest_5 : decode cX9_strongest 5 = .ok (.iload_n 2, 1) := by decide +kernel
theorem dX9_strongest_6 : decode cX9_strongest 6 = .ok (.iload_n 3, 1) := by decide +kernel
theorem dX9_strongest_7 : decode cX9_strongest 7 = .ok (.invokestatic 251, 3) := by decide +kernel
theorem dX9_strongest_10 : decode cX9_strongest 10 = .ok (.invokestatic 251, 3) := by decide +kernel
theorem dX9_strongest_13 : decode cX9_strongest 13 = .ok (.istore 4, 2) := by decide +kernel
theorem dX9_strongest_15 : decode cX9_strongest 15 = .ok (.iload 4, 2) := by decide +kernel
theorem dX9_strongest_17 : decode cX9_strongest 17 = .ok (.ifCond .ne 5, 3) := by decide +kernel
theorem dX9_strongest_20 : decode cX9_strongest 20 = .ok (.iconst 0, 1) := by decide +kernel
theorem dX9_strongest_21 : decode cX9_strongest 21 = .ok (.ireturn, 1) := by decide +kernel
theorem dX9_strongest_22 : decode cX9_strongest 22 = .ok (.iload_n 0, 1) := by decide +kernel
theorem dX9_strongest_23 : decode cX9_strongest 23 = .ok (.iload 4, 2) := by decide +kernel
theorem dX9_strongest_25 : decode cX9_strongest 25 = .ok (.if_icmp .ne 7, 3) := by decide +kernel
theorem dX9_strongest_28 : decode cX9_strongest 28 = .ok (.iconst 0, 1) := by decide +kernel
theorem dX9_strongest_29 : decode cX9_strongest 29 = .ok (.goto 24, 3) := by decide +kernel
theorem dX9_strongest_32 : decode cX9_strongest 32 = .ok (.iload_n 1, 1) := by decide +kernel
theorem dX9_strongest_33 : decode cX9_strongest 33 = .ok (.iload 4, 2) := by decide +kernel
theorem dX9_strongest_35 : decode cX9_strongest 35 = .ok (.if_icmp .ne 7, 3) := by decide +kernel
theorem dX9_strongest_38 : decode cX9_strongest 38 = .ok (.iconst 1, 1) := by decide +kernel
theorem dX9_strongest_39 : decode cX9_strongest 39 = .ok (.goto 14, 3) := by decide +kernel
theorem dX9_strongest_42 : decode cX9_strongest 42 = .ok (.iload_n 2, 1) := by decide +kernel
theorem dX9_strongest_43 : decode cX9_strongest 43 = .ok (.iload 4, 2) := by decide +kernel
theorem dX9_strongest_45 : decode cX9_strongest 45 = .ok (.if_icmp .ne 7, 3) := by decide +kernel
theorem dX9_strongest_48 : decode cX9_strongest 48 = .ok (.iconst 2, 1) := by decide +kernel
theorem dX9_strongest_49 : decode cX9_strongest 49 = .ok (.goto 4, 3) := by decide +kernel
theorem dX9_strongest_52 : decode cX9_strongest 52 = .ok (.iconst 3, 1) := by decide +kernel
theorem dX9_strongest_53 : decode cX9_strongest 53 = .ok (.istore 5, 2) := by decide +kernel
theorem dX9_strongest_55 : decode cX9_strongest 55 = .ok (.bipush 10, 2) := by decide +kernel
theorem dX9_strongest_57 : decode cX9_strongest 57 = .ok (.iload 4, 2) := by decide +kernel
theorem dX9_strongest_59 : decode cX9_strongest 59 = .ok (.imul, 1) := by decide +kernel
theorem dX9_strongest_60 : decode cX9_strongest 60 = .ok (.iload 5, 2) := by decide +kernel
theorem dX9_strongest_62 : decode cX9_strongest 62 = .ok (.iadd, 1) := by decide +kernel
theorem dX9_strongest_63 : decode cX9_strongest 63 = .ok (.iconst 1, 1) := by decide +kernel
theorem dX9_strongest_64 : decode cX9_strongest 64 = .ok (.iadd, 1) := by decide +kernel
theorem dX9_strongest_65 : decode cX9_strongest 65 = .ok (.ireturn, 1) := by decide +kernel
theorem dX9_leftPart_0 : decode cX9_leftPart 0 = .ok (.iload_n 0, 1) := by decide +kernel
theorem dX9_leftPart_1 : decode cX9_leftPart 1 = .ok (.ifCond .ge 7, 3) := by decide +kernel
theorem dX9_leftPart_4 : decode cX9_leftPart 4 = .ok (.iconst 2, 1) := by decide +kernel
theorem dX9_leftPart_5 : decode cX9_leftPart 5 = .ok (.goto 4, 3) := by decide +kernel
theorem dX9_leftPart_8 : decode cX9_leftPart 8 = .ok (.iconst 1, 1) := by decide +kernel
theorem dX9_leftPart_9 : decode cX9_leftPart 9 = .ok (.istore_n 1, 1) := by decide +kernel
theorem dX9_leftPart_10 : decode cX9_leftPart 10 = .ok (.iload_n 0, 1) := by decide +kernel
theorem dX9_leftPart_11 : decode cX9_leftPart 11 = .ok (.ifCond .ge 8, 3) := by decide +kernel
theorem dX9_leftPart_14 : decode cX9_leftPart 14 = .ok (.iload_n 0, 1) := by decide +kernel
theorem dX9_leftPart_15 : decode cX9_leftPart 15 = .ok (.ineg, 1) := by decide +kernel
theorem dX9_leftPart_16 : decode cX9_leftPart 16 = .ok (.goto 4, 3) := by decide +kernel
theorem dX9_leftPart_19 : decode cX9_leftPart 19 = .ok (.iload_n 0, 1) := by decide +kernel
theorem dX9_leftPart_20 : decode cX9_leftPart 20 = .ok (.bipush 100, 2) := by decide +kernel
theorem dX9_leftPart_22 : decode cX9_leftPart 22 = .ok (.idiv, 1) := by decide +kernel
theorem dX9_leftPart_23 : decode cX9_leftPart 23 = .ok (.istore_n 2, 1) := by decide +kernel
theorem dX9_leftPart_24 : decode cX9_leftPart 24 = .ok (.iconst 0, 1) := by decide +kernel
theorem dX9_leftPart_25 : decode cX9_leftPart 25 = .ok (.istore_n 3, 1) := by decide +kernel
theorem dX9_leftPart_26 : decode cX9_leftPart 26 = .ok (.iload_n 3, 1) := by decide +kernel
theorem dX9_leftPart_27 : decode cX9_leftPart 27 = .ok (.bipush 9, 2) := by decide +kernel
theorem dX9_leftPart_29 : decode cX9_leftPart 29 = .ok (.if_icmp .ge 23, 3) := by decide +kernel
theorem dX9_leftPart_32 : decode cX9_leftPart 32 = .ok (.iload_n 2, 1) := by decide +kernel
theorem dX9_leftPart_33 : decode cX9_leftPart 33 = .ok (.bipush 10, 2) := by decide +kernel
theorem dX9_leftPart_35 : decode cX9_leftPart 35 = .ok (.if_icmp .lt 17, 3) := by decide +kernel
theorem dX9_leftPart_38 : decode cX9_leftPart 38 = .ok (.iload_n 2, 1) := by decide +kernel
theorem dX9_leftPart_39 : decode cX9_leftPart 39 = .ok (.bipush 10, 2) := by decide +kernel
theorem dX9_leftPart_41 : decode cX9_leftPart 41 = .ok (.idiv, 1) := by decide +kernel
theorem dX9_leftPart_42 : decode cX9_leftPart 42 = .ok (.istore_n 2, 1) := by decide +kernel
theorem dX9_leftPart_43 : decode cX9_leftPart 43 = .ok (.iinc 1 1, 3) := by decide +kernel
theorem dX9_leftPart_46 : decode cX9_leftPart 46 = .ok (.iinc 3 1, 3) := by decide +kernel
theorem dX9_leftPart_49 : decode cX9_leftPart 49 = .ok (.goto (-23), 3) := by decide +kernel
theorem dX9_leftPart_52 : decode cX9_leftPart 52 = .ok (.iload_n 1, 1) := by decide +kernel
theorem dX9_leftPart_53 : decode cX9_leftPart 53 = .ok (.ireturn, 1) := by decide +kernel
theorem dX0_addWord_0 : decode cX0_addWord 0 = .ok (.aload_n 0, 1) := by decide +kernel
theorem dX0_addWord_1 : decode cX0_addWord 1 = .ok (.getfield 35, 3) := by decide +kernel
theorem dX0_addWord_4 : decode cX0_addWord 4 = .ok (.bipush 12, 2) := by decide +kernel
theorem dX0_addWord_6 : decode cX0_addWord 6 = .ok (.if_icmp .ge 33, 3) := by decide +kernel
theorem dX0_addWord_9 : decode cX0_addWord 9 = .ok (.aload_n 0, 1) := by decide +kernel
theorem dX0_addWord_10 : decode cX0_addWord 10 = .ok (.getfield 15, 3) := by decide +kernel
theorem dX0_addWord_13 : decode cX0_addWord 13 = .ok (.aload_n 0, 1) := by decide +kernel
theorem dX0_addWord_14 : decode cX0_addWord 14 = .ok (.getfield 35, 3) := by decide +kernel
theorem dX0_addWord_17 : decode cX0_addWord 17 = .ok (.iload_n 1, 1) := by decide +kernel
theorem dX0_addWord_18 : decode cX0_addWord 18 = .ok (.iastore, 1) := by decide +kernel
theorem dX0_addWord_19 : decode cX0_addWord 19 = .ok (.aload_n 0, 1) := by decide +kernel
theorem dX0_addWord_20 : decode cX0_addWord 20 = .ok (.getfield 18, 3) := by decide +kernel
theorem dX0_addWord_23 : decode cX0_addWord 23 = .ok (.aload_n 0, 1) := by decide +kernel
theorem dX0_addWord_24 : decode cX0_addWord 24 = .ok (.getfield 35, 3) := by decide +kernel
theorem dX0_addWord_27 : decode cX0_addWord 27 = .ok (.iload_n 2, 1) := by decide +kernel
theorem dX0_addWord_28 : decode cX0_addWord 28 = .ok (.iastore, 1) := by decide +kernel
theorem dX0_addWord_29 : decode cX0_addWord 29 = .ok (.aload_n 0, 1) := by decide +kernel
theorem dX0_addWord_30 : decode cX0_addWord 30 = .ok (.dup, 1) := by decide +kernel
theorem dX0_addWord_31 : decode cX0_addWord 31 = .ok (.getfield 35, 3) := by decide +kernel
theorem dX0_addWord_34 : decode cX0_addWord 34 = .ok (.iconst 1, 1) := by decide +kernel
theorem dX0_addWord_35 : decode cX0_addWord 35 = .ok (.iadd, 1) := by decide +kernel
theorem dX0_addWord_36 : decode cX0_addWord 36 = .ok (.putfield 35, 3) := by decide +kernel
theorem dX0_addWord_39 : decode cX0_addWord 39 = .ok (.return_, 1) := by decide +kernel
theorem dX0_isOut_0 : decode cX0_isOut 0 = .ok (.aload_n 0, 1) := by decide +kernel
theorem dX0_isOut_1 : decode cX0_isOut 1 = .ok (.getfield 38, 3) := by decide +kernel
theorem dX0_isOut_4 : decode cX0_isOut 4 = .ok (.ifCond .ne 7, 3) := by decide +kernel
theorem dX0_isOut_7 : decode cX0_isOut 7 = .ok (.iconst 1, 1) := by decide +kernel
theorem dX0_isOut_8 : decode cX0_isOut 8 = .ok (.goto 4, 3) := by decide +kernel
theorem dX0_isOut_11 : decode cX0_isOut 11 = .ok (.iconst 0, 1) := by decide +kernel
theorem dX0_isOut_12 : decode cX0_isOut 12 = .ok (.ireturn, 1) := by decide +kernel
theorem dX0_showsFigure_0 : decode cX0_showsFigure 0 = .ok (.aload_n 0, 1) := by decide +kernel
theorem dX0_showsFigure_1 : decode cX0_showsFigure 1 = .ok (.getfield 41, 3) := by decide +kernel
theorem dX0_showsFigure_4 : decode cX0_showsFigure 4 = .ok (.ifCond .eq 14, 3) := by decide +kernel
theorem dX0_showsFigure_7 : decode cX0_showsFigure 7 = .ok (.aload_n 0, 1) := by decide +kernel
theorem dX0_showsFigure_8 : decode cX0_showsFigure 8 = .ok (.invokevirtual 45, 3) := by decide +kernel
theorem dX0_showsFigure_11 : decode cX0_showsFigure 11 = .ok (.ifCond .ne 7, 3) := by decide +kernel
theorem dX0_showsFigure_14 : decode cX0_showsFigure 14 = .ok (.iconst 1, 1) := by decide +kernel
theorem dX0_showsFigure_15 : decode cX0_showsFigure 15 = .ok (.goto 4, 3) := by decide +kernel
theorem dX0_showsFigure_18 : decode cX0_showsFigure 18 = .ok (.iconst 0, 1) := by decide +kernel
theorem dX0_showsFigure_19 : decode cX0_showsFigure 19 = .ok (.ireturn, 1) := by decide +kernel
theorem dX0_rightPart_0 : decode cX0_rightPart 0 = .ok (.aload_n 0, 1) := by decide +kernel
theorem dX0_rightPart_1 : decode cX0_rightPart 1 = .ok (.getfield 49, 3) := by decide +kernel
theorem dX0_rightPart_4 : decode cX0_rightPart 4 = .ok (.ifCond .ne 7, 3) := by decide +kernel
theorem dX0_rightPart_7 : decode cX0_rightPart 7 = .ok (.iconst 0, 1) := by decide +kernel
theorem dX0_rightPart_8 : decode cX0_rightPart 8 = .ok (.goto 9, 3) := by decide +kernel
theorem dX0_rightPart_11 : decode cX0_rightPart 11 = .ok (.aload_n 0, 1) := by decide +kernel
theorem dX0_rightPart_12 : decode cX0_rightPart 12 = .ok (.getfield 49, 3) := by decide +kernel
theorem dX0_rightPart_15 : decode cX0_rightPart 15 = .ok (.iconst 1, 1) := by decide +kernel
theorem dX0_rightPart_16 : decode cX0_rightPart 16 = .ok (.iadd, 1) := by decide +kernel
theorem dX0_rightPart_17 : decode cX0_rightPart 17 = .ok (.aload_n 0, 1) := by decide +kernel
theorem dX0_rightPart_18 : decode cX0_rightPart 18 = .ok (.getfield 52, 3) := by decide +kernel
theorem dX0_rightPart_21 : decode cX0_rightPart 21 = .ok (.ifCond .le 7, 3) := by decide +kernel
theorem dX0_rightPart_24 : decode cX0_rightPart 24 = .ok (.iconst 1, 1) := by decide +kernel
theorem dX0_rightPart_25 : decode cX0_rightPart 25 = .ok (.goto 4, 3) := by decide +kernel
theorem dX0_rightPart_28 : decode cX0_rightPart 28 = .ok (.iconst 0, 1) := by decide +kernel
theorem dX0_rightPart_29 : decode cX0_rightPart 29 = .ok (.iadd, 1) := by decide +kernel
theorem dX0_rightPart_30 : decode cX0_rightPart 30 = .ok (.ireturn, 1) := by decide +kernel
theorem dX0_leastByWords_0 : decode cX0_leastByWords 0 = .ok (.iconst 0, 1) := by decide +kernel
theorem dX0_leastByWords_1 : decode cX0_leastByWords 1 = .ok (.istore_n 1, 1) := by decide +kernel
theorem dX0_leastByWords_2 : decode cX0_leastByWords 2 = .ok (.iconst 0, 1) := by decide +kernel
theorem dX0_leastByWords_3 : decode cX0_leastByWords 3 = .ok (.istore_n 2, 1) := by decide +kernel
theorem dX0_leastByWords_4 : decode cX0_leastByWords 4 = .ok (.iload_n 2, 1) := by decide +kernel
theorem dX0_leastByWords_5 : decode cX0_leastByWords 5 = .ok (.aload_n 0, 1) := by decide +kernel
theorem dX0_leastByWords_6 : decode cX0_leastByWords 6 = .ok (.getfield 35, 3) := by decide +kernel
theorem dX0_leastByWords_9 : decode cX0_leastByWords 9 = .ok (.if_icmp .ge 58, 3) := by decide +kernel
theorem dX0_leastByWords_12 : decode cX0_leastByWords 12 = .ok (.aload_n 0, 1) := by decide +kernel
theorem dX0_leastByWords_13 : decode cX0_leastByWords 13 = .ok (.getfield 18, 3) := by decide +kernel
theorem dX0_leastByWords_16 : decode cX0_leastByWords 16 = .ok (.iload_n 2, 1) := by decide +kernel
theorem dX0_leastByWords_17 : decode cX0_leastByWords 17 = .ok (.iaload, 1) := by decide +kernel
theorem dX0_leastByWords_18 : decode cX0_leastByWords 18 = .ok (.ifCond .ne 12, 3) := by decide +kernel
theorem dX0_leastByWords_21 : decode cX0_leastByWords 21 = .ok (.aload_n 0, 1) := by decide +kernel
theorem dX0_leastByWords_22 : decode cX0_leastByWords 22 = .ok (.getfield 15, 3) := by decide +kernel
theorem dX0_leastByWords_25 : decode cX0_leastByWords 25 = .ok (.iload_n 2, 1) := by decide +kernel
theorem dX0_leastByWords_26 : decode cX0_leastByWords 26 = .ok (.iaload, 1) := by decide +kernel
theorem dX0_leastByWords_27 : decode cX0_leastByWords 27 = .ok (.goto 27, 3) := by decide +kernel
theorem dX0_leastByWords_30 : decode cX0_leastByWords 30 = .ok (.aload_n 0, 1) := by decide +kernel
theorem dX0_leastByWords_31 : decode cX0_leastByWords 31 = .ok (.getfield 18, 3) := by decide +kernel
theorem dX0_leastByWords_34 : decode cX0_leastByWords 34 = .ok (.iload_n 2, 1) := by decide +kernel
theorem dX0_leastByWords_35 : decode cX0_leastByWords 35 = .ok (.iaload, 1) := by decide +kernel
theorem dX0_leastByWords_36 : decode cX0_leastByWords 36 = .ok (.iconst 1, 1) := by decide +kernel
theorem dX0_leastByWords_37 : decode cX0_leastByWords 37 = .ok (.iadd, 1) := by decide +kernel
theorem dX0_leastByWords_38 : decode cX0_leastByWords 38 = .ok (.aload_n 0, 1) := by decide +kernel
theorem dX0_leastByWords_39 : decode cX0_leastByWords 39 = .ok (.getfield 15, 3) := by decide +kernel
theorem dX0_leastByWords_42 : decode cX0_leastByWords 42 = .ok (.iload_n 2, 1) := by decide +kernel
theorem dX0_leastByWords_43 : decode cX0_leastByWords 43 = .ok (.iaload, 1) := by decide +kernel
theorem dX0_leastByWords_44 : decode cX0_leastByWords 44 = .ok (.aload_n 0, 1) := by decide +kernel
theorem dX0_leastByWords_45 : decode cX0_leastByWords 45 = .ok (.getfield 18, 3) := by decide +kernel
theorem dX0_leastByWords_48 : decode cX0_leastByWords 48 = .ok (.iload_n 2, 1) := by decide +kernel
theorem dX0_leastByWords_49 : decode cX0_leastByWords 49 = .ok (.iaload, 1) := by decide +kernel
theorem dX0_leastByWords_50 : decode cX0_leastByWords 50 = .ok (.isub, 1) := by decide +kernel
theorem dX0_leastByWords_51 : decode cX0_leastByWords 51 = .ok (.invokestatic 55, 3) := by decide +kernel
theorem dX0_leastByWords_54 : decode cX0_leastByWords 54 = .ok (.istore_n 3, 1) := by decide +kernel
theorem dX0_leastByWords_55 : decode cX0_leastByWords 55 = .ok (.iload_n 1, 1) := by decide +kernel
theorem dX0_leastByWords_56 : decode cX0_leastByWords 56 = .ok (.iload_n 3, 1) := by decide +kernel
theorem dX0_leastByWords_57 : decode cX0_leastByWords 57 = .ok (.invokestatic 55, 3) := by decide +kernel
theorem dX0_leastByWords_60 : decode cX0_leastByWords 60 = .ok (.istore_n 1, 1) := by decide +kernel
theorem dX0_leastByWords_61 : decode cX0_leastByWords 61 = .ok (.iinc 2 1, 3) := by decide +kernel
theorem dX0_leastByWords_64 : decode cX0_leastByWords 64 = .ok (.goto (-60), 3) := by decide +kernel
theorem dX0_leastByWords_67 : decode cX0_leastByWords 67 = .ok (.iload_n 1, 1) := by decide +kernel
theorem dX0_leastByWords_68 : decode cX0_leastByWords 68 = .ok (.ireturn, 1) := by decide +kernel
theorem dX0_mostByWords_0 : decode cX0_mostByWords 0 = .ok (.iconst 0, 1) := by decide +kernel
theorem dX0_mostByWords_1 : decode cX0_mostByWords 1 = .ok (.aload_n 0, 1) := by decide +kernel
theorem dX0_mostByWords_2 : decode cX0_mostByWords 2 = .ok (.getfield 35, 3) := by decide +kernel
theorem dX0_mostByWords_5 : decode cX0_mostByWords 5 = .ok (.iconst 1, 1) := by decide +kernel
theorem dX0_mostByWords_6 : decode cX0_mostByWords 6 = .ok (.isub, 1) := by decide +kernel
theorem dX0_mostByWords_7 : decode cX0_mostByWords 7 = .ok (.invokestatic 55, 3) := by decide +kernel
theorem dX0_mostByWords_10 : decode cX0_mostByWords 10 = .ok (.istore_n 1, 1) := by decide +kernel
theorem dX0_mostByWords_11 : decode cX0_mostByWords 11 = .ok (.iconst 0, 1) := by decide +kernel
theorem dX0_mostByWords_12 : decode cX0_mostByWords 12 = .ok (.istore_n 2, 1) := by decide +kernel
theorem dX0_mostByWords_13 : decode cX0_mostByWords 13 = .ok (.iload_n 2, 1) := by decide +kernel
theorem dX0_mostByWords_14 : decode cX0_mostByWords 14 = .ok (.aload_n 0, 1) := by decide +kernel
theorem dX0_mostByWords_15 : decode cX0_mostByWords 15 = .ok (.getfield 35, 3) := by decide +kernel
theorem dX0_mostByWords_18 : decode cX0_mostByWords 18 = .ok (.if_icmp .ge 18, 3) := by decide +kernel
theorem dX0_mostByWords_21 : decode cX0_mostByWords 21 = .ok (.iload_n 1, 1) := by decide +kernel
theorem dX0_mostByWords_22 : decode cX0_mostByWords 22 = .ok (.aload_n 0, 1) := by decide +kernel
theorem dX0_mostByWords_23 : decode cX0_mostByWords 23 = .ok (.getfield 15, 3) := by decide +kernel
theorem dX0_mostByWords_26 : decode cX0_mostByWords 26 = .ok (.iload_n 2, 1) := by decide +kernel
theorem dX0_mostByWords_27 : decode cX0_mostByWords 27 = .ok (.iaload, 1) := by decide +kernel
theorem dX0_mostByWords_28 : decode cX0_mostByWords 28 = .ok (.iadd, 1) := by decide +kernel
theorem dX0_mostByWords_29 : decode cX0_mostByWords 29 = .ok (.istore_n 1, 1) := by decide +kernel
theorem dX0_mostByWords_30 : decode cX0_mostByWords 30 = .ok (.iinc 2 1, 3) := by decide +kernel
theorem dX0_mostByWords_33 : decode cX0_mostByWords 33 = .ok (.goto (-20), 3) := by decide +kernel
theorem dX0_mostByWords_36 : decode cX0_mostByWords 36 = .ok (.iload_n 1, 1) := by decide +kernel
theorem dX0_mostByWords_37 : decode cX0_mostByWords 37 = .ok (.ireturn, 1) := by decide +kernel
theorem dX0_begin_0 : decode cX0_begin 0 = .ok (.iload_n 0, 1) := by decide +kernel
theorem dX0_begin_1 : decode cX0_begin 1 = .ok (.ifCond .ne 7, 3) := by decide +kernel
theorem dX0_begin_4 : decode cX0_begin 4 = .ok (.iconst 0, 1) := by decide +kernel
theorem dX0_begin_5 : decode cX0_begin 5 = .ok (.goto 6, 3) := by decide +kernel
theorem dX0_begin_8 : decode cX0_begin 8 = .ok (.iload_n 0, 1) := by decide +kernel
theorem dX0_begin_9 : decode cX0_begin 9 = .ok (.iconst 1, 1) := by decide +kernel
theorem dX0_begin_10 : decode cX0_begin 10 = .ok (.iadd, 1) := by decide +kernel
theorem dX0_begin_11 : decode cX0_begin 11 = .ok (.ireturn, 1) := by decide +kernel
theorem dX2_addItem_0 : decode cX2_addItem 0 = .ok (.aload_n 0, 1) := by decide +kernel
theorem dX2_addItem_1 : decode cX2_addItem 1 = .ok (.getfield 75, 3) := by decide +kernel
theorem dX2_addItem_4 : decode cX2_addItem 4 = .ok (.bipush 50, 2) := by decide +kernel
theorem dX2_addItem_6 : decode cX2_addItem 6 = .ok (.if_icmp .ge 54, 3) := by decide +kernel
theorem dX2_addItem_9 : decode cX2_addItem 9 = .ok (.aload_n 0, 1) := by decide +kernel
theorem dX2_addItem_10 : decode cX2_addItem 10 = .ok (.getfield 9, 3) := by decide +kernel
theorem dX2_addItem_13 : decode cX2_addItem 13 = .ok (.aload_n 0, 1) := by decide +kernel
theorem dX2_addItem_14 : decode cX2_addItem 14 = .ok (.getfield 75, 3) := by decide +kernel
theorem dX2_addItem_17 : decode cX2_addItem 17 = .ok (.iload_n 1, 1) := by decide +kernel
theorem dX2_addItem_18 : decode cX2_addItem 18 = .ok (.iastore, 1) := by decide +kernel
theorem dX2_addItem_19 : decode cX2_addItem 19 = .ok (.aload_n 0, 1) := by decide +kernel
theorem dX2_addItem_20 : decode cX2_addItem 20 = .ok (.getfield 15, 3) := by decide +kernel
theorem dX2_addItem_23 : decode cX2_addItem 23 = .ok (.aload_n 0, 1) := by decide +kernel
theorem dX2_addItem_24 : decode cX2_addItem 24 = .ok (.getfield 75, 3) := by decide +kernel
theorem dX2_addItem_27 : decode cX2_addItem 27 = .ok (.iload_n 2, 1) := by decide +kernel
theorem dX2_addItem_28 : decode cX2_addItem 28 = .ok (.iastore, 1) := by decide +kernel
theorem dX2_addItem_29 : decode cX2_addItem 29 = .ok (.aload_n 0, 1) := by decide +kernel
theorem dX2_addItem_30 : decode cX2_addItem 30 = .ok (.getfield 18, 3) := by decide +kernel
theorem dX2_addItem_33 : decode cX2_addItem 33 = .ok (.aload_n 0, 1) := by decide +kernel
theorem dX2_addItem_34 : decode cX2_addItem 34 = .ok (.getfield 75, 3) := by decide +kernel
theorem dX2_addItem_37 : decode cX2_addItem 37 = .ok (.iload_n 3, 1) := by decide +kernel
theorem dX2_addItem_38 : decode cX2_addItem 38 = .ok (.iastore, 1) := by decide +kernel
theorem dX2_addItem_39 : decode cX2_addItem 39 = .ok (.aload_n 0, 1) := by decide +kernel
theorem dX2_addItem_40 : decode cX2_addItem 40 = .ok (.getfield 21, 3) := by decide +kernel
theorem dX2_addItem_43 : decode cX2_addItem 43 = .ok (.aload_n 0, 1) := by decide +kernel
theorem dX2_addItem_44 : decode cX2_addItem 44 = .ok (.getfield 75, 3) := by decide +kernel
theorem dX2_addItem_47 : decode cX2_addItem 47 = .ok (.iload 4, 2) := by decide +kernel
theorem dX2_addItem_49 : decode cX2_addItem 49 = .ok (.bastore, 1) := by decide +kernel
theorem dX2_addItem_50 : decode cX2_addItem 50 = .ok (.aload_n 0, 1) := by decide +kernel
theorem dX2_addItem_51 : decode cX2_addItem 51 = .ok (.dup, 1) := by decide +kernel
theorem dX2_addItem_52 : decode cX2_addItem 52 = .ok (.getfield 75, 3) := by decide +kernel
theorem dX2_addItem_55 : decode cX2_addItem 55 = .ok (.iconst 1, 1) := by decide +kernel
theorem dX2_addItem_56 : decode cX2_addItem 56 = .ok (.iadd, 1) := by decide +kernel
theorem dX2_addItem_57 : decode cX2_addItem 57 = .ok (.putfield 75, 3) := by decide +kernel
theorem dX2_addItem_60 : decode cX2_addItem 60 = .ok (.return_, 1) := by decide +kernel
theorem dX3_hasColumn_0 : decode cX3_hasColumn 0 = .ok (.iload_n 1, 1) := by decide +kernel
theorem dX3_hasColumn_1 : decode cX3_hasColumn 1 = .ok (.ifCond .lt 18, 3) := by decide +kernel
theorem dX3_hasColumn_4 : decode cX3_hasColumn 4 = .ok (.iload_n 1, 1) := by decide +kernel
theorem dX3_hasColumn_5 : decode cX3_hasColumn 5 = .ok (.aload_n 0, 1) := by decide +kernel
theorem dX3_hasColumn_6 : decode cX3_hasColumn 6 = .ok (.getfield 12, 3) := by decide +kernel
theorem dX3_hasColumn_9 : decode cX3_hasColumn 9 = .ok (.invokevirtual 37, 3) := by decide +kernel
theorem dX3_hasColumn_12 : decode cX3_hasColumn 12 = .ok (.if_icmp .ge 7, 3) := by decide +kernel
theorem dX3_hasColumn_15 : decode cX3_hasColumn 15 = .ok (.iconst 1, 1) := by decide +kernel
theorem dX3_hasColumn_16 : decode cX3_hasColumn 16 = .ok (.goto 4, 3) := by decide +kernel
theorem dX3_hasColumn_19 : decode cX3_hasColumn 19 = .ok (.iconst 0, 1) := by decide +kernel
theorem dX3_hasColumn_20 : decode cX3_hasColumn 20 = .ok (.ireturn, 1) := by decide +kernel
theorem dX3_hasRow_0 : decode cX3_hasRow 0 = .ok (.iload_n 1, 1) := by decide +kernel
theorem dX3_hasRow_1 : decode cX3_hasRow 1 = .ok (.ifCond .lt 18, 3) := by decide +kernel
theorem dX3_hasRow_4 : decode cX3_hasRow 4 = .ok (.iload_n 1, 1) := by decide +kernel
theorem dX3_hasRow_5 : decode cX3_hasRow 5 = .ok (.aload_n 0, 1) := by decide +kernel
theorem dX3_hasRow_6 : decode cX3_hasRow 6 = .ok (.getfield 18, 3) := by decide +kernel
theorem dX3_hasRow_9 : decode cX3_hasRow 9 = .ok (.invokevirtual 37, 3) := by decide +kernel
theorem dX3_hasRow_12 : decode cX3_hasRow 12 = .ok (.if_icmp .ge 7, 3) := by decide +kernel
theorem dX3_hasRow_15 : decode cX3_hasRow 15 = .ok (.iconst 1, 1) := by decide +kernel
theorem dX3_hasRow_16 : decode cX3_hasRow 16 = .ok (.goto 4, 3) := by decide +kernel
theorem dX3_hasRow_19 : decode cX3_hasRow 19 = .ok (.iconst 0, 1) := by decide +kernel
theorem dX3_hasRow_20 : decode cX3_hasRow 20 = .ok (.ireturn, 1) := by decide +kernel
theorem dX3_hasCell_0 : decode cX3_hasCell 0 = .ok (.iload_n 1, 1) := by decide +kernel
theorem dX3_hasCell_1 : decode cX3_hasCell 1 = .ok (.ifCond .lt 18, 3) := by decide +kernel
theorem dX3_hasCell_4 : decode cX3_hasCell 4 = .ok (.iload_n 1, 1) := by decide +kernel
theorem dX3_hasCell_5 : decode cX3_hasCell 5 = .ok (.aload_n 0, 1) := by decide +kernel
theorem dX3_hasCell_6 : decode cX3_hasCell 6 = .ok (.getfield 21, 3) := by decide +kernel
theorem dX3_hasCell_9 : decode cX3_hasCell 9 = .ok (.invokevirtual 37, 3) := by decide +kernel
theorem dX3_hasCell_12 : decode cX3_hasCell 12 = .ok (.if_icmp .ge 7, 3) := by decide +kernel
theorem dX3_hasCell_15 : decode cX3_hasCell 15 = .ok (.iconst 1, 1) := by decide +kernel
theorem dX3_hasCell_16 : decode cX3_hasCell 16 = .ok (.goto 4, 3) := by decide +kernel
theorem dX3_hasCell_19 : decode cX3_hasCell 19 = .ok (.iconst 0, 1) := by decide +kernel
theorem dX3_hasCell_20 : decode cX3_hasCell 20 = .ok (.ireturn, 1) := by decide +kernel
theorem dX3_isBodyRow_0 : decode cX3_isBodyRow 0 = .ok (.aload_n 0, 1) := by decide +kernel
theorem dX3_isBodyRow_1 : decode cX3_isBodyRow 1 = .ok (.iload_n 1, 1) := by decide +kernel
theorem dX3_isBodyRow_2 : decode cX3_isBodyRow 2 = .ok (.invokevirtual 41, 3) := by decide +kernel
theorem dX3_isBodyRow_5 : decode cX3_isBodyRow 5 = .ok (.ifCond .eq 25, 3) := by decide +kernel
theorem dX3_isBodyRow_8 : decode cX3_isBodyRow 8 = .ok (.aload_n 0, 1) := by decide +kernel
theorem dX3_isBodyRow_9 : decode cX3_isBodyRow 9 = .ok (.getfield 18, 3) := by decide +kernel
theorem dX3_isBodyRow_12 : decode cX3_isBodyRow 12 = .ok (.iload_n 1, 1) := by decide +kernel
theorem dX3_isBodyRow_13 : decode cX3_isBodyRow 13 = .ok (.invokevirtual 45, 3) := by decide +kernel
theorem dX3_isBodyRow_16 : decode cX3_isBodyRow 16 = .ok (.checkcast 49, 3) := by decide +kernel
theorem dX3_isBodyRow_19 : decode cX3_isBodyRow 19 = .ok (.getfield 51, 3) := by decide +kernel
theorem dX3_isBodyRow_22 : decode cX3_isBodyRow 22 = .ok (.iconst 1, 1) := by decide +kernel
theorem dX3_isBodyRow_23 : decode cX3_isBodyRow 23 = .ok (.if_icmp .ne 7, 3) := by decide +kernel
theorem dX3_isBodyRow_26 : decode cX3_isBodyRow 26 = .ok (.iconst 1, 1) := by decide +kernel
theorem dX3_isBodyRow_27 : decode cX3_isBodyRow 27 = .ok (.goto 4, 3) := by decide +kernel
theorem dX3_isBodyRow_30 : decode cX3_isBodyRow 30 = .ok (.iconst 0, 1) := by decide +kernel
theorem dX3_isBodyRow_31 : decode cX3_isBodyRow 31 = .ok (.ireturn, 1) := by decide +kernel
theorem dX3_isFull_0 : decode cX3_isFull 0 = .ok (.iload_n 1, 1) := by decide +kernel
theorem dX3_isFull_1 : decode cX3_isFull 1 = .ok (.ifCond .lt 24, 3) := by decide +kernel
theorem dX3_isFull_4 : decode cX3_isFull 4 = .ok (.iload_n 1, 1) := by decide +kernel
theorem dX3_isFull_5 : decode cX3_isFull 5 = .ok (.iconst 2, 1) := by decide +kernel
theorem dX3_isFull_6 : decode cX3_isFull 6 = .ok (.if_icmp .gt 19, 3) := by decide +kernel
theorem dX3_isFull_9 : decode cX3_isFull 9 = .ok (.aload_n 0, 1) := by decide +kernel
theorem dX3_isFull_10 : decode cX3_isFull 10 = .ok (.iload_n 1, 1) := by decide +kernel
theorem dX3_isFull_11 : decode cX3_isFull 11 = .ok (.invokevirtual 55, 3) := by decide +kernel
theorem dX3_isFull_14 : decode cX3_isFull 14 = .ok (.invokevirtual 37, 3) := by decide +kernel
theorem dX3_isFull_17 : decode cX3_isFull 17 = .ok (.getstatic 59, 3) := by decide +kernel
theorem dX3_isFull_20 : decode cX3_isFull 20 = .ok (.iload_n 1, 1) := by decide +kernel
theorem dX3_isFull_21 : decode cX3_isFull 21 = .ok (.iaload, 1) := by decide +kernel
theorem dX3_isFull_22 : decode cX3_isFull 22 = .ok (.if_icmp .lt 7, 3) := by decide +kernel
theorem dX3_isFull_25 : decode cX3_isFull 25 = .ok (.iconst 1, 1) := by decide +kernel
theorem dX3_isFull_26 : decode cX3_isFull 26 = .ok (.goto 4, 3) := by decide +kernel
theorem dX3_isFull_29 : decode cX3_isFull 29 = .ok (.iconst 0, 1) := by decide +kernel
theorem dX3_isFull_30 : decode cX3_isFull 30 = .ok (.ireturn, 1) := by decide +kernel
theorem dX3_hasFreePlaces_0 : decode cX3_hasFreePlaces 0 = .ok (.aload_n 0, 1) := by decide +kernel
theorem dX3_hasFreePlaces_1 : decode cX3_hasFreePlaces 1 = .ok (.aload_n 1, 1) := by decide +kernel
theorem dX3_hasFreePlaces_2 : decode cX3_hasFreePlaces 2 = .ok (.getfield 51, 3) := by decide +kernel
theorem dX3_hasFreePlaces_5 : decode cX3_hasFreePlaces 5 = .ok (.invokevirtual 55, 3) := by decide +kernel
theorem dX3_hasFreePlaces_8 : decode cX3_hasFreePlaces 8 = .ok (.astore 5, 2) := by decide +kernel
theorem dX3_hasFreePlaces_10 : decode cX3_hasFreePlaces 10 = .ok (.aload_n 1, 1) := by decide +kernel
theorem dX3_hasFreePlaces_11 : decode cX3_hasFreePlaces 11 = .ok (.getfield 75, 3) := by decide +kernel
theorem dX3_hasFreePlaces_14 : decode cX3_hasFreePlaces 14 = .ok (.iload_n 3, 1) := by decide +kernel
theorem dX3_hasFreePlaces_15 : decode cX3_hasFreePlaces 15 = .ok (.iadd, 1) := by decide +kernel
theorem dX3_hasFreePlaces_16 : decode cX3_hasFreePlaces 16 = .ok (.istore 6, 2) := by decide +kernel
theorem dX3_hasFreePlaces_18 : decode cX3_hasFreePlaces 18 = .ok (.iload_n 2, 1) := by decide +kernel
theorem dX3_hasFreePlaces_19 : decode cX3_hasFreePlaces 19 = .ok (.iload 4, 2) := by decide +kernel
theorem dX3_hasFreePlaces_21 : decode cX3_hasFreePlaces 21 = .ok (.iadd, 1) := by decide +kernel
theorem dX3_hasFreePlaces_22 : decode cX3_hasFreePlaces 22 = .ok (.istore 7, 2) := by decide +kernel
theorem dX3_hasFreePlaces_24 : decode cX3_hasFreePlaces 24 = .ok (.iload 6, 2) := by decide +kernel
theorem dX3_hasFreePlaces_26 : decode cX3_hasFreePlaces 26 = .ok (.aload 5, 2) := by decide +kernel
theorem dX3_hasFreePlaces_28 : decode cX3_hasFreePlaces 28 = .ok (.invokevirtual 37, 3) := by decide +kernel
theorem dX3_hasFreePlaces_31 : decode cX3_hasFreePlaces 31 = .ok (.if_icmp .gt 15, 3) := by decide +kernel
theorem dX3_hasFreePlaces_34 : decode cX3_hasFreePlaces 34 = .ok (.iload 7, 2) := by decide +kernel
theorem dX3_hasFreePlaces_36 : decode cX3_hasFreePlaces 36 = .ok (.aload_n 0, 1) := by decide +kernel
theorem dX3_hasFreePlaces_37 : decode cX3_hasFreePlaces 37 = .ok (.getfield 12, 3) := by decide +kernel
theorem dX3_hasFreePlaces_40 : decode cX3_hasFreePlaces 40 = .ok (.invokevirtual 37, 3) := by decide +kernel
theorem dX3_hasFreePlaces_43 : decode cX3_hasFreePlaces 43 = .ok (.if_icmp .le 5, 3) := by decide +kernel
theorem dX3_hasFreePlaces_46 : decode cX3_hasFreePlaces 46 = .ok (.iconst 0, 1) := by decide +kernel
theorem dX3_hasFreePlaces_47 : decode cX3_hasFreePlaces 47 = .ok (.ireturn, 1) := by decide +kernel
theorem dX3_hasFreePlaces_48 : decode cX3_hasFreePlaces 48 = .ok (.aload_n 1, 1) := by decide +kernel
theorem dX3_hasFreePlaces_49 : decode cX3_hasFreePlaces 49 = .ok (.getfield 75, 3) := by decide +kernel
theorem dX3_hasFreePlaces_52 : decode cX3_hasFreePlaces 52 = .ok (.istore 8, 2) := by decide +kernel
theorem dX3_hasFreePlaces_54 : decode cX3_hasFreePlaces 54 = .ok (.iload 8, 2) := by decide +kernel
theorem dX3_hasFreePlaces_56 : decode cX3_hasFreePlaces 56 = .ok (.iload 6, 2) := by decide +kernel
theorem dX3_hasFreePlaces_58 : decode cX3_hasFreePlaces 58 = .ok (.if_icmp .ge 47, 3) := by decide +kernel
theorem dX3_hasFreePlaces_61 : decode cX3_hasFreePlaces 61 = .ok (.iload_n 2, 1) := by decide +kernel
theorem dX3_hasFreePlaces_62 : decode cX3_hasFreePlaces 62 = .ok (.istore 9, 2) := by decide +kernel
theorem dX3_hasFreePlaces_64 : decode cX3_hasFreePlaces 64 = .ok (.iload 9, 2) := by decide +kernel
theorem dX3_hasFreePlaces_66 : decode cX3_hasFreePlaces 66 = .ok (.iload 7, 2) := by decide +kernel
theorem dX3_hasFreePlaces_68 : decode cX3_hasFreePlaces 68 = .ok (.if_icmp .ge 31, 3) := by decide +kernel
theorem dX3_hasFreePlaces_71 : decode cX3_hasFreePlaces 71 = .ok (.aload 5, 2) := by decide +kernel
theorem dX3_hasFreePlaces_73 : decode cX3_hasFreePlaces 73 = .ok (.iload 8, 2) := by decide +kernel
theorem dX3_hasFreePlaces_75 : decode cX3_hasFreePlaces 75 = .ok (.invokevirtual 45, 3) := by decide +kernel
theorem dX3_hasFreePlaces_78 : decode cX3_hasFreePlaces 78 = .ok (.checkcast 49, 3) := by decide +kernel
theorem dX3_hasFreePlaces_81 : decode cX3_hasFreePlaces 81 = .ok (.getfield 81, 3) := by decide +kernel
theorem dX3_hasFreePlaces_84 : decode cX3_hasFreePlaces 84 = .ok (.iload 9, 2) := by decide +kernel
theorem dX3_hasFreePlaces_86 : decode cX3_hasFreePlaces 86 = .ok (.iaload, 1) := by decide +kernel
theorem dX3_hasFreePlaces_87 : decode cX3_hasFreePlaces 87 = .ok (.iconst (-1), 1) := by decide +kernel
theorem dX3_hasFreePlaces_88 : decode cX3_hasFreePlaces 88 = .ok (.if_icmp .eq 5, 3) := by decide +kernel
theorem dX3_hasFreePlaces_91 : decode cX3_hasFreePlaces 91 = .ok (.iconst 0, 1) := by decide +kernel
theorem dX3_hasFreePlaces_92 : decode cX3_hasFreePlaces 92 = .ok (.ireturn, 1) := by decide +kernel
theorem dX3_hasFreePlaces_93 : decode cX3_hasFreePlaces 93 = .ok (.iinc 9 1, 3) := by decide +kernel
theorem dX3_hasFreePlaces_96 : decode cX3_hasFreePlaces 96 = .ok (.goto (-32), 3) := by decide +kernel
theorem dX3_hasFreePlaces_99 : decode cX3_hasFreePlaces 99 = .ok (.iinc 8 1, 3) := by decide +kernel
theorem dX3_hasFreePlaces_102 : decode cX3_hasFreePlaces 102 = .ok (.goto (-48), 3) := by decide +kernel
theorem dX3_hasFreePlaces_105 : decode cX3_hasFreePlaces 105 = .ok (.iconst 1, 1) := by decide +kernel
theorem dX3_hasFreePlaces_106 : decode cX3_hasFreePlaces 106 = .ok (.ireturn, 1) := by decide +kernel
theorem dX3_cellNumberAt_0 : decode cX3_cellNumberAt 0 = .ok (.aload_n 0, 1) := by decide +kernel
theorem dX3_cellNumberAt_1 : decode cX3_cellNumberAt 1 = .ok (.iload_n 1, 1) := by decide +kernel
theorem dX3_cellNumberAt_2 : decode cX3_cellNumberAt 2 = .ok (.invokevirtual 41, 3) := by decide +kernel
theorem dX3_cellNumberAt_5 : decode cX3_cellNumberAt 5 = .ok (.ifCond .eq 30, 3) := by decide +kernel
theorem dX3_cellNumberAt_8 : decode cX3_cellNumberAt 8 = .ok (.aload_n 0, 1) := by decide +kernel
theorem dX3_cellNumberAt_9 : decode cX3_cellNumberAt 9 = .ok (.iload_n 2, 1) := by decide +kernel
theorem dX3_cellNumberAt_10 : decode cX3_cellNumberAt 10 = .ok (.invokevirtual 112, 3) := by decide +kernel
theorem dX3_cellNumberAt_13 : decode cX3_cellNumberAt 13 = .ok (.ifCond .eq 22, 3) := by decide +kernel
theorem dX3_cellNumberAt_16 : decode cX3_cellNumberAt 16 = .ok (.aload_n 0, 1) := by decide +kernel
theorem dX3_cellNumberAt_17 : decode cX3_cellNumberAt 17 = .ok (.getfield 18, 3) := by decide +kernel
theorem dX3_cellNumberAt_20 : decode cX3_cellNumberAt 20 = .ok (.iload_n 1, 1) := by decide +kernel
theorem dX3_cellNumberAt_21 : decode cX3_cellNumberAt 21 = .ok (.invokevirtual 45, 3) := by decide +kernel
theorem dX3_cellNumberAt_24 : decode cX3_cellNumberAt 24 = .ok (.checkcast 49, 3) := by decide +kernel
theorem dX3_cellNumberAt_27 : decode cX3_cellNumberAt 27 = .ok (.getfield 81, 3) := by decide +kernel
theorem dX3_cellNumberAt_30 : decode cX3_cellNumberAt 30 = .ok (.iload_n 2, 1) := by decide +kernel
theorem dX3_cellNumberAt_31 : decode cX3_cellNumberAt 31 = .ok (.iaload, 1) := by decide +kernel
theorem dX3_cellNumberAt_32 : decode cX3_cellNumberAt 32 = .ok (.goto 4, 3) := by decide +kernel
theorem dX3_cellNumberAt_35 : decode cX3_cellNumberAt 35 = .ok (.iconst (-1), 1) := by decide +kernel
theorem dX3_cellNumberAt_36 : decode cX3_cellNumberAt 36 = .ok (.ireturn, 1) := by decide +kernel
theorem dX3_isShown_0 : decode cX3_isShown 0 = .ok (.iload_n 1, 1) := by decide +kernel
theorem dX3_isShown_1 : decode cX3_isShown 1 = .ok (.ifCond .lt 22, 3) := by decide +kernel
theorem dX3_isShown_4 : decode cX3_isShown 4 = .ok (.iload_n 1, 1) := by decide +kernel
theorem dX3_isShown_5 : decode cX3_isShown 5 = .ok (.bipush 6, 2) := by decide +kernel
theorem dX3_isShown_7 : decode cX3_isShown 7 = .ok (.if_icmp .ge 16, 3) := by decide +kernel
theorem dX3_isShown_10 : decode cX3_isShown 10 = .ok (.aload_n 0, 1) := by decide +kernel
theorem dX3_isShown_11 : decode cX3_isShown 11 = .ok (.getfield 33, 3) := by decide +kernel
theorem dX3_isShown_14 : decode cX3_isShown 14 = .ok (.iload_n 1, 1) := by decide +kernel
theorem dX3_isShown_15 : decode cX3_isShown 15 = .ok (.baload, 1) := by decide +kernel
theorem dX3_isShown_16 : decode cX3_isShown 16 = .ok (.ifCond .eq 7, 3) := by decide +kernel
theorem dX3_isShown_19 : decode cX3_isShown 19 = .ok (.iconst 1, 1) := by decide +kernel
theorem dX3_isShown_20 : decode cX3_isShown 20 = .ok (.goto 4, 3) := by decide +kernel
theorem dX3_isShown_23 : decode cX3_isShown 23 = .ok (.iconst 0, 1) := by decide +kernel
theorem dX3_isShown_24 : decode cX3_isShown 24 = .ok (.ireturn, 1) := by decide +kernel
theorem dX3_isShownContent_0 : decode cX3_isShownContent 0 = .ok (.aload_n 0, 1) := by decide +kernel
theorem dX3_isShownContent_1 : decode cX3_isShownContent 1 = .ok (.iload_n 1, 1) := by decide +kernel
theorem dX3_isShownContent_2 : decode cX3_isShownContent 2 = .ok (.invokevirtual 115, 3) := by decide +kernel
theorem dX3_isShownContent_5 : decode cX3_isShownContent 5 = .ok (.ifCond .eq 35, 3) := by decide +kernel
theorem dX3_isShownContent_8 : decode cX3_isShownContent 8 = .ok (.iload_n 1, 1) := by decide +kernel
theorem dX3_isShownContent_9 : decode cX3_isShownContent 9 = .ok (.aload_n 0, 1) := by decide +kernel
theorem dX3_isShownContent_10 : decode cX3_isShownContent 10 = .ok (.getfield 12, 3) := by decide +kernel
theorem dX3_isShownContent_13 : decode cX3_isShownContent 13 = .ok (.invokevirtual 37, 3) := by decide +kernel
theorem dX3_isShownContent_16 : decode cX3_isShownContent 16 = .ok (.if_icmp .ge 24, 3) := by decide +kernel
theorem dX3_isShownContent_19 : decode cX3_isShownContent 19 = .ok (.aload_n 0, 1) := by decide +kernel
theorem dX3_isShownContent_20 : decode cX3_isShownContent 20 = .ok (.getfield 12, 3) := by decide +kernel
theorem dX3_isShownContent_23 : decode cX3_isShownContent 23 = .ok (.iload_n 1, 1) := by decide +kernel
theorem dX3_isShownContent_24 : decode cX3_isShownContent 24 = .ok (.invokevirtual 45, 3) := by decide +kernel
theorem dX3_isShownContent_27 : decode cX3_isShownContent 27 = .ok (.checkcast 63, 3) := by decide +kernel
theorem dX3_isShownContent_30 : decode cX3_isShownContent 30 = .ok (.getfield 118, 3) := by decide +kernel
theorem dX3_isShownContent_33 : decode cX3_isShownContent 33 = .ok (.ifCond .ne 7, 3) := by decide +kernel
theorem dX3_isShownContent_36 : decode cX3_isShownContent 36 = .ok (.iconst 1, 1) := by decide +kernel
theorem dX3_isShownContent_37 : decode cX3_isShownContent 37 = .ok (.goto 4, 3) := by decide +kernel
theorem dX3_isShownContent_40 : decode cX3_isShownContent 40 = .ok (.iconst 0, 1) := by decide +kernel
theorem dX3_isShownContent_41 : decode cX3_isShownContent 41 = .ok (.ireturn, 1) := by decide +kernel
theorem dX3_countShownColumns_0 : decode cX3_countShownColumns 0 = .ok (.iconst 0, 1) := by decide +kernel
theorem dX3_countShownColumns_1 : decode cX3_countShownColumns 1 = .ok (.istore_n 1, 1) := by decide +kernel
theorem dX3_countShownColumns_2 : decode cX3_countShownColumns 2 = .ok (.iconst 0, 1) := by decide +kernel
theorem dX3_countShownColumns_3 : decode cX3_countShownColumns 3 = .ok (.istore_n 2, 1) := by decide +kernel
theorem dX3_countShownColumns_4 : decode cX3_countShownColumns 4 = .ok (.iload_n 2, 1) := by decide +kernel
theorem dX3_countShownColumns_5 : decode cX3_countShownColumns 5 = .ok (.aload_n 0, 1) := by decide +kernel
theorem dX3_countShownColumns_6 : decode cX3_countShownColumns 6 = .ok (.getfield 12, 3) := by decide +kernel
theorem dX3_countShownColumns_9 : decode cX3_countShownColumns 9 = .ok (.invokevirtual 37, 3) := by decide +kernel
theorem dX3_countShownColumns_12 : decode cX3_countShownColumns 12 = .ok (.if_icmp .ge 25, 3) := by decide +kernel
theorem dX3_countShownColumns_15 : decode cX3_countShownColumns 15 = .ok (.iload_n 1, 1) := by decide +kernel
theorem dX3_countShownColumns_16 : decode cX3_countShownColumns 16 = .ok (.aload_n 0, 1) := by decide +kernel
theorem dX3_countShownColumns_17 : decode cX3_countShownColumns 17 = .ok (.iload_n 2, 1) := by decide +kernel
theorem dX3_countShownColumns_18 : decode cX3_countShownColumns 18 = .ok (.invokevirtual 115, 3) := by decide +kernel
theorem dX3_countShownColumns_21 : decode cX3_countShownColumns 21 = .ok (.ifCond .eq 7, 3) := by decide +kernel
theorem dX3_countShownColumns_24 : decode cX3_countShownColumns 24 = .ok (.iconst 1, 1) := by decide +kernel
theorem dX3_countShownColumns_25 : decode cX3_countShownColumns 25 = .ok (.goto 4, 3) := by decide +kernel
theorem dX3_countShownColumns_28 : decode cX3_countShownColumns 28 = .ok (.iconst 0, 1) := by decide +kernel
theorem dX3_countShownColumns_29 : decode cX3_countShownColumns 29 = .ok (.iadd, 1) := by decide +kernel
theorem dX3_countShownColumns_30 : decode cX3_countShownColumns 30 = .ok (.istore_n 1, 1) := by decide +kernel
theorem dX3_countShownColumns_31 : decode cX3_countShownColumns 31 = .ok (.iinc 2 1, 3) := by decide +kernel
theorem dX3_countShownColumns_34 : decode cX3_countShownColumns 34 = .ok (.goto (-30), 3) := by decide +kernel
theorem dX3_countShownColumns_37 : decode cX3_countShownColumns 37 = .ok (.iload_n 1, 1) := by decide +kernel
theorem dX3_countShownColumns_38 : decode cX3_countShownColumns 38 = .ok (.ireturn, 1) := by decide +kernel
theorem dX3_countShown_0 : decode cX3_countShown 0 = .ok (.iconst 0, 1) := by decide +kernel
theorem dX3_countShown_1 : decode cX3_countShown 1 = .ok (.istore_n 2, 1) := by decide +kernel
theorem dX3_countShown_2 : decode cX3_countShown 2 = .ok (.aload_n 1, 1) := by decide +kernel
theorem dX3_countShown_3 : decode cX3_countShown 3 = .ok (.getfield 99, 3) := by decide +kernel
theorem dX3_countShown_6 : decode cX3_countShown 6 = .ok (.istore_n 3, 1) := by decide +kernel
theorem dX3_countShown_7 : decode cX3_countShown 7 = .ok (.iload_n 3, 1) := by decide +kernel
theorem dX3_countShown_8 : decode cX3_countShown 8 = .ok (.aload_n 1, 1) := by decide +kernel
theorem dX3_countShown_9 : decode cX3_countShown 9 = .ok (.getfield 99, 3) := by decide +kernel
theorem dX3_countShown_12 : decode cX3_countShown 12 = .ok (.aload_n 1, 1) := by decide +kernel
theorem dX3_countShown_13 : decode cX3_countShown 13 = .ok (.getfield 102, 3) := by decide +kernel
theorem dX3_countShown_16 : decode cX3_countShown 16 = .ok (.iadd, 1) := by decide +kernel
theorem dX3_countShown_17 : decode cX3_countShown 17 = .ok (.if_icmp .ge 25, 3) := by decide +kernel
theorem dX3_countShown_20 : decode cX3_countShown 20 = .ok (.iload_n 2, 1) := by decide +kernel
theorem dX3_countShown_21 : decode cX3_countShown 21 = .ok (.aload_n 0, 1) := by decide +kernel
theorem dX3_countShown_22 : decode cX3_countShown 22 = .ok (.iload_n 3, 1) := by decide +kernel
theorem dX3_countShown_23 : decode cX3_countShown 23 = .ok (.invokevirtual 115, 3) := by decide +kernel
theorem dX3_countShown_26 : decode cX3_countShown 26 = .ok (.ifCond .eq 7, 3) := by decide +kernel
theorem dX3_countShown_29 : decode cX3_countShown 29 = .ok (.iconst 1, 1) := by decide +kernel
theorem dX3_countShown_30 : decode cX3_countShown 30 = .ok (.goto 4, 3) := by decide +kernel
theorem dX3_countShown_33 : decode cX3_countShown 33 = .ok (.iconst 0, 1) := by decide +kernel
theorem dX3_countShown_34 : decode cX3_countShown 34 = .ok (.iadd, 1) := by decide +kernel
theorem dX3_countShown_35 : decode cX3_countShown 35 = .ok (.istore_n 2, 1) := by decide +kernel
theorem dX3_countShown_36 : decode cX3_countShown 36 = .ok (.iinc 3 1, 3) := by decide +kernel
theorem dX3_countShown_39 : decode cX3_countShown 39 = .ok (.goto (-32), 3) := by decide +kernel
theorem dX3_countShown_42 : decode cX3_countShown 42 = .ok (.iload_n 2, 1) := by decide +kernel
theorem dX3_countShown_43 : decode cX3_countShown 43 = .ok (.ireturn, 1) := by decide +kernel
theorem dX3_hideOrShow_0 : decode cX3_hideOrShow 0 = .ok (.iload_n 1, 1) := by decide +kernel
theorem dX3_hideOrShow_1 : decode cX3_hideOrShow 1 = .ok (.ifCond .lt 29, 3) := by decide +kernel
theorem dX3_hideOrShow_4 : decode cX3_hideOrShow 4 = .ok (.iload_n 1, 1) := by decide +kernel
theorem dX3_hideOrShow_5 : decode cX3_hideOrShow 5 = .ok (.bipush 6, 2) := by decide +kernel
theorem dX3_hideOrShow_7 : decode cX3_hideOrShow 7 = .ok (.if_icmp .ge 23, 3) := by decide +kernel
theorem dX3_hideOrShow_10 : decode cX3_hideOrShow 10 = .ok (.aload_n 0, 1) := by decide +kernel
theorem dX3_hideOrShow_11 : decode cX3_hideOrShow 11 = .ok (.getfield 33, 3) := by decide +kernel
theorem dX3_hideOrShow_14 : decode cX3_hideOrShow 14 = .ok (.iload_n 1, 1) := by decide +kernel
theorem dX3_hideOrShow_15 : decode cX3_hideOrShow 15 = .ok (.aload_n 0, 1) := by decide +kernel
theorem dX3_hideOrShow_16 : decode cX3_hideOrShow 16 = .ok (.getfield 33, 3) := by decide +kernel
theorem dX3_hideOrShow_19 : decode cX3_hideOrShow 19 = .ok (.iload_n 1, 1) := by decide +kernel
theorem dX3_hideOrShow_20 : decode cX3_hideOrShow 20 = .ok (.baload, 1) := by decide +kernel
theorem dX3_hideOrShow_21 : decode cX3_hideOrShow 21 = .ok (.ifCond .ne 7, 3) := by decide +kernel
theorem dX3_hideOrShow_24 : decode cX3_hideOrShow 24 = .ok (.iconst 1, 1) := by decide +kernel
theorem dX3_hideOrShow_25 : decode cX3_hideOrShow 25 = .ok (.goto 4, 3) := by decide +kernel
theorem dX3_hideOrShow_28 : decode cX3_hideOrShow 28 = .ok (.iconst 0, 1) := by decide +kernel
theorem dX3_hideOrShow_29 : decode cX3_hideOrShow 29 = .ok (.bastore, 1) := by decide +kernel
theorem dX3_hideOrShow_30 : decode cX3_hideOrShow 30 = .ok (.iconst 0, 1) := by decide +kernel
theorem dX3_hideOrShow_31 : decode cX3_hideOrShow 31 = .ok (.istore_n 2, 1) := by decide +kernel
theorem dX3_hideOrShow_32 : decode cX3_hideOrShow 32 = .ok (.iload_n 2, 1) := by decide +kernel
theorem dX3_hideOrShow_33 : decode cX3_hideOrShow 33 = .ok (.aload_n 0, 1) := by decide +kernel
theorem dX3_hideOrShow_34 : decode cX3_hideOrShow 34 = .ok (.getfield 21, 3) := by decide +kernel
theorem dX3_hideOrShow_37 : decode cX3_hideOrShow 37 = .ok (.invokevirtual 37, 3) := by decide +kernel
theorem dX3_hideOrShow_40 : decode cX3_hideOrShow 40 = .ok (.if_icmp .ge 38, 3) := by decide +kernel
theorem dX3_hideOrShow_43 : decode cX3_hideOrShow 43 = .ok (.aload_n 0, 1) := by decide +kernel
theorem dX3_hideOrShow_44 : decode cX3_hideOrShow 44 = .ok (.getfield 21, 3) := by decide +kernel
theorem dX3_hideOrShow_47 : decode cX3_hideOrShow 47 = .ok (.iload_n 2, 1) := by decide +kernel
theorem dX3_hideOrShow_48 : decode cX3_hideOrShow 48 = .ok (.invokevirtual 45, 3) := by decide +kernel
theorem dX3_hideOrShow_51 : decode cX3_hideOrShow 51 = .ok (.checkcast 85, 3) := by decide +kernel
theorem dX3_hideOrShow_54 : decode cX3_hideOrShow 54 = .ok (.aload_n 0, 1) := by decide +kernel
theorem dX3_hideOrShow_55 : decode cX3_hideOrShow 55 = .ok (.aload_n 0, 1) := by decide +kernel
theorem dX3_hideOrShow_56 : decode cX3_hideOrShow 56 = .ok (.getfield 21, 3) := by decide +kernel
theorem dX3_hideOrShow_59 : decode cX3_hideOrShow 59 = .ok (.iload_n 2, 1) := by decide +kernel
theorem dX3_hideOrShow_60 : decode cX3_hideOrShow 60 = .ok (.invokevirtual 45, 3) := by decide +kernel
theorem dX3_hideOrShow_63 : decode cX3_hideOrShow 63 = .ok (.checkcast 85, 3) := by decide +kernel
theorem dX3_hideOrShow_66 : decode cX3_hideOrShow 66 = .ok (.invokevirtual 105, 3) := by decide +kernel
theorem dX3_hideOrShow_69 : decode cX3_hideOrShow 69 = .ok (.putfield 109, 3) := by decide +kernel
theorem dX3_hideOrShow_72 : decode cX3_hideOrShow 72 = .ok (.iinc 2 1, 3) := by decide +kernel
theorem dX3_hideOrShow_75 : decode cX3_hideOrShow 75 = .ok (.goto (-43), 3) := by decide +kernel
theorem dX3_hideOrShow_78 : decode cX3_hideOrShow 78 = .ok (.aload_n 0, 1) := by decide +kernel
theorem dX3_hideOrShow_79 : decode cX3_hideOrShow 79 = .ok (.iload_n 1, 1) := by decide +kernel
theorem dX3_hideOrShow_80 : decode cX3_hideOrShow 80 = .ok (.invokevirtual 115, 3) := by decide +kernel
theorem dX3_hideOrShow_83 : decode cX3_hideOrShow 83 = .ok (.ifCond .ne 7, 3) := by decide +kernel
theorem dX3_hideOrShow_86 : decode cX3_hideOrShow 86 = .ok (.iconst 1, 1) := by decide +kernel
theorem dX3_hideOrShow_87 : decode cX3_hideOrShow 87 = .ok (.goto 4, 3) := by decide +kernel
theorem dX3_hideOrShow_90 : decode cX3_hideOrShow 90 = .ok (.iconst 0, 1) := by decide +kernel
theorem dX3_hideOrShow_91 : decode cX3_hideOrShow 91 = .ok (.ireturn, 1) := by decide +kernel
theorem dX3_isTotalled_0 : decode cX3_isTotalled 0 = .ok (.aload_n 0, 1) := by decide +kernel
theorem dX3_isTotalled_1 : decode cX3_isTotalled 1 = .ok (.iload_n 1, 1) := by decide +kernel
theorem dX3_isTotalled_2 : decode cX3_isTotalled 2 = .ok (.invokevirtual 115, 3) := by decide +kernel
theorem dX3_isTotalled_5 : decode cX3_isTotalled 5 = .ok (.ifCond .eq 35, 3) := by decide +kernel
theorem dX3_isTotalled_8 : decode cX3_isTotalled 8 = .ok (.iload_n 1, 1) := by decide +kernel
theorem dX3_isTotalled_9 : decode cX3_isTotalled 9 = .ok (.aload_n 0, 1) := by decide +kernel
theorem dX3_isTotalled_10 : decode cX3_isTotalled 10 = .ok (.getfield 12, 3) := by decide +kernel
theorem dX3_isTotalled_13 : decode cX3_isTotalled 13 = .ok (.invokevirtual 37, 3) := by decide +kernel
theorem dX3_isTotalled_16 : decode cX3_isTotalled 16 = .ok (.if_icmp .ge 24, 3) := by decide +kernel
theorem dX3_isTotalled_19 : decode cX3_isTotalled 19 = .ok (.aload_n 0, 1) := by decide +kernel
theorem dX3_isTotalled_20 : decode cX3_isTotalled 20 = .ok (.getfield 12, 3) := by decide +kernel
theorem dX3_isTotalled_23 : decode cX3_isTotalled 23 = .ok (.iload_n 1, 1) := by decide +kernel
theorem dX3_isTotalled_24 : decode cX3_isTotalled 24 = .ok (.invokevirtual 45, 3) := by decide +kernel
theorem dX3_isTotalled_27 : decode cX3_isTotalled 27 = .ok (.checkcast 63, 3) := by decide +kernel
theorem dX3_isTotalled_30 : decode cX3_isTotalled 30 = .ok (.getfield 124, 3) := by decide +kernel
theorem dX3_isTotalled_33 : decode cX3_isTotalled 33 = .ok (.ifCond .eq 7, 3) := by decide +kernel
theorem dX3_isTotalled_36 : decode cX3_isTotalled 36 = .ok (.iconst 1, 1) := by decide +kernel
theorem dX3_isTotalled_37 : decode cX3_isTotalled 37 = .ok (.goto 4, 3) := by decide +kernel
theorem dX3_isTotalled_40 : decode cX3_isTotalled 40 = .ok (.iconst 0, 1) := by decide +kernel
theorem dX3_isTotalled_41 : decode cX3_isTotalled 41 = .ok (.ireturn, 1) := by decide +kernel
theorem dX3_totalledColumns_0 : decode cX3_totalledColumns 0 = .ok (.iconst 0, 1) := by decide +kernel
theorem dX3_totalledColumns_1 : decode cX3_totalledColumns 1 = .ok (.istore_n 1, 1) := by decide +kernel
theorem dX3_totalledColumns_2 : decode cX3_totalledColumns 2 = .ok (.iconst 0, 1) := by decide +kernel
theorem dX3_totalledColumns_3 : decode cX3_totalledColumns 3 = .ok (.istore_n 2, 1) := by decide +kernel
theorem dX3_totalledColumns_4 : decode cX3_totalledColumns 4 = .ok (.iload_n 2, 1) := by decide +kernel
theorem dX3_totalledColumns_5 : decode cX3_totalledColumns 5 = .ok (.aload_n 0, 1) := by decide +kernel
theorem dX3_totalledColumns_6 : decode cX3_totalledColumns 6 = .ok (.getfield 12, 3) := by decide +kernel
theorem dX3_totalledColumns_9 : decode cX3_totalledColumns 9 = .ok (.invokevirtual 37, 3) := by decide +kernel
theorem dX3_totalledColumns_12 : decode cX3_totalledColumns 12 = .ok (.if_icmp .ge 27, 3) := by decide +kernel
theorem dX3_totalledColumns_15 : decode cX3_totalledColumns 15 = .ok (.iload_n 1, 1) := by decide +kernel
theorem dX3_totalledColumns_16 : decode cX3_totalledColumns 16 = .ok (.aload_n 0, 1) := by decide +kernel
theorem dX3_totalledColumns_17 : decode cX3_totalledColumns 17 = .ok (.iload_n 2, 1) := by decide +kernel
theorem dX3_totalledColumns_18 : decode cX3_totalledColumns 18 = .ok (.invokevirtual 128, 3) := by decide +kernel
theorem dX3_totalledColumns_21 : decode cX3_totalledColumns 21 = .ok (.ifCond .eq 9, 3) := by decide +kernel
theorem dX3_totalledColumns_24 : decode cX3_totalledColumns 24 = .ok (.iconst 1, 1) := by decide +kernel
theorem dX3_totalledColumns_25 : decode cX3_totalledColumns 25 = .ok (.iload_n 2, 1) := by decide +kernel
theorem dX3_totalledColumns_26 : decode cX3_totalledColumns 26 = .ok (.ishl, 1) := by decide +kernel
theorem dX3_totalledColumns_27 : decode cX3_totalledColumns 27 = .ok (.goto 4, 3) := by decide +kernel
theorem dX3_totalledColumns_30 : decode cX3_totalledColumns 30 = .ok (.iconst 0, 1) := by decide +kernel
theorem dX3_totalledColumns_31 : decode cX3_totalledColumns 31 = .ok (.ior, 1) := by decide +kernel
theorem dX3_totalledColumns_32 : decode cX3_totalledColumns 32 = .ok (.istore_n 1, 1) := by decide +kernel
theorem dX3_totalledColumns_33 : decode cX3_totalledColumns 33 = .ok (.iinc 2 1, 3) := by decide +kernel
theorem dX3_totalledColumns_36 : decode cX3_totalledColumns 36 = .ok (.goto (-32), 3) := by decide +kernel
theorem dX3_totalledColumns_39 : decode cX3_totalledColumns 39 = .ok (.iload_n 1, 1) := by decide +kernel
theorem dX3_totalledColumns_40 : decode cX3_totalledColumns 40 = .ok (.ireturn, 1) := by decide +kernel
theorem dX3_between_0 : decode cX3_between 0 = .ok (.iconst 0, 1) := by decide +kernel
theorem dX3_between_1 : decode cX3_between 1 = .ok (.aload_n 0, 1) := by decide +kernel
theorem dX3_between_2 : decode cX3_between 2 = .ok (.invokevirtual 130, 3) := by decide +kernel
theorem dX3_between_5 : decode cX3_between 5 = .ok (.iconst 1, 1) := by decide +kernel
theorem dX3_between_6 : decode cX3_between 6 = .ok (.isub, 1) := by decide +kernel
theorem dX3_between_7 : decode cX3_between 7 = .ok (.invokestatic 133, 3) := by decide +kernel
theorem dX3_between_10 : decode cX3_between 10 = .ok (.ireturn, 1) := by decide +kernel
theorem dX3_widthTogether_0 : decode cX3_widthTogether 0 = .ok (.aload_n 0, 1) := by decide +kernel
theorem dX3_widthTogether_1 : decode cX3_widthTogether 1 = .ok (.invokevirtual 136, 3) := by decide +kernel
theorem dX3_widthTogether_4 : decode cX3_widthTogether 4 = .ok (.istore_n 2, 1) := by decide +kernel
theorem dX3_widthTogether_5 : decode cX3_widthTogether 5 = .ok (.iconst 0, 1) := by decide +kernel
theorem dX3_widthTogether_6 : decode cX3_widthTogether 6 = .ok (.istore_n 3, 1) := by decide +kernel
theorem dX3_widthTogether_7 : decode cX3_widthTogether 7 = .ok (.iload_n 3, 1) := by decide +kernel
theorem dX3_widthTogether_8 : decode cX3_widthTogether 8 = .ok (.aload_n 0, 1) := by decide +kernel
theorem dX3_widthTogether_9 : decode cX3_widthTogether 9 = .ok (.getfield 12, 3) := by decide +kernel
theorem dX3_widthTogether_12 : decode cX3_widthTogether 12 = .ok (.invokevirtual 37, 3) := by decide +kernel
theorem dX3_widthTogether_15 : decode cX3_widthTogether 15 = .ok (.if_icmp .ge 33, 3) := by decide +kernel
theorem dX3_widthTogether_18 : decode cX3_widthTogether 18 = .ok (.iload_n 3, 1) := by decide +kernel
theorem dX3_widthTogether_19 : decode cX3_widthTogether 19 = .ok (.aload_n 1, 1) := by decide +kernel
theorem dX3_widthTogether_20 : decode cX3_widthTogether 20 = .ok (.arraylength, 1) := by decide +kernel
theorem dX3_widthTogether_21 : decode cX3_widthTogether 21 = .ok (.if_icmp .ge 27, 3) := by decide +kernel
theorem dX3_widthTogether_24 : decode cX3_widthTogether 24 = .ok (.iload_n 2, 1) := by decide +kernel
theorem dX3_widthTogether_25 : decode cX3_widthTogether 25 = .ok (.aload_n 0, 1) := by decide +kernel
theorem dX3_widthTogether_26 : decode cX3_widthTogether 26 = .ok (.iload_n 3, 1) := by decide +kernel
theorem dX3_widthTogether_27 : decode cX3_widthTogether 27 = .ok (.invokevirtual 115, 3) := by decide +kernel
theorem dX3_widthTogether_30 : decode cX3_widthTogether 30 = .ok (.ifCond .eq 9, 3) := by decide +kernel
theorem dX3_widthTogether_33 : decode cX3_widthTogether 33 = .ok (.aload_n 1, 1) := by decide +kernel
theorem dX3_widthTogether_34 : decode cX3_widthTogether 34 = .ok (.iload_n 3, 1) := by decide +kernel
theorem dX3_widthTogether_35 : decode cX3_widthTogether 35 = .ok (.iaload, 1) := by decide +kernel
theorem dX3_widthTogether_36 : decode cX3_widthTogether 36 = .ok (.goto 4, 3) := by decide +kernel
theorem dX3_widthTogether_39 : decode cX3_widthTogether 39 = .ok (.iconst 0, 1) := by decide +kernel
theorem dX3_widthTogether_40 : decode cX3_widthTogether 40 = .ok (.iadd, 1) := by decide +kernel
theorem dX3_widthTogether_41 : decode cX3_widthTogether 41 = .ok (.istore_n 2, 1) := by decide +kernel
theorem dX3_widthTogether_42 : decode cX3_widthTogether 42 = .ok (.iinc 3 1, 3) := by decide +kernel
theorem dX3_widthTogether_45 : decode cX3_widthTogether 45 = .ok (.goto (-38), 3) := by decide +kernel
theorem dX3_widthTogether_48 : decode cX3_widthTogether 48 = .ok (.iload_n 2, 1) := by decide +kernel
theorem dX3_widthTogether_49 : decode cX3_widthTogether 49 = .ok (.ireturn, 1) := by decide +kernel
theorem dX3_widthOfCell_0 : decode cX3_widthOfCell 0 = .ok (.iconst 0, 1) := by decide +kernel
theorem dX3_widthOfCell_1 : decode cX3_widthOfCell 1 = .ok (.aload_n 1, 1) := by decide +kernel
theorem dX3_widthOfCell_2 : decode cX3_widthOfCell 2 = .ok (.getfield 109, 3) := by decide +kernel
theorem dX3_widthOfCell_5 : decode cX3_widthOfCell 5 = .ok (.iconst 1, 1) := by decide +kernel
theorem dX3_widthOfCell_6 : decode cX3_widthOfCell 6 = .ok (.isub, 1) := by decide +kernel
theorem dX3_widthOfCell_7 : decode cX3_widthOfCell 7 = .ok (.invokestatic 133, 3) := by decide +kernel
theorem dX3_widthOfCell_10 : decode cX3_widthOfCell 10 = .ok (.istore_n 3, 1) := by decide +kernel
theorem dX3_widthOfCell_11 : decode cX3_widthOfCell 11 = .ok (.aload_n 1, 1) := by decide +kernel
theorem dX3_widthOfCell_12 : decode cX3_widthOfCell 12 = .ok (.getfield 99, 3) := by decide +kernel
theorem dX3_widthOfCell_15 : decode cX3_widthOfCell 15 = .ok (.aload_n 1, 1) := by decide +kernel
theorem dX3_widthOfCell_16 : decode cX3_widthOfCell 16 = .ok (.getfield 102, 3) := by decide +kernel
theorem dX3_widthOfCell_19 : decode cX3_widthOfCell 19 = .ok (.iadd, 1) := by decide +kernel
theorem dX3_widthOfCell_20 : decode cX3_widthOfCell 20 = .ok (.aload_n 2, 1) := by decide +kernel
theorem dX3_widthOfCell_21 : decode cX3_widthOfCell 21 = .ok (.arraylength, 1) := by decide +kernel
theorem dX3_widthOfCell_22 : decode cX3_widthOfCell 22 = .ok (.invokestatic 93, 3) := by decide +kernel
theorem dX3_widthOfCell_25 : decode cX3_widthOfCell 25 = .ok (.istore 4, 2) := by decide +kernel
theorem dX3_widthOfCell_27 : decode cX3_widthOfCell 27 = .ok (.aload_n 1, 1) := by decide +kernel
theorem dX3_widthOfCell_28 : decode cX3_widthOfCell 28 = .ok (.getfield 99, 3) := by decide +kernel
theorem dX3_widthOfCell_31 : decode cX3_widthOfCell 31 = .ok (.istore 5, 2) := by decide +kernel
theorem dX3_widthOfCell_33 : decode cX3_widthOfCell 33 = .ok (.iload 5, 2) := by decide +kernel
theorem dX3_widthOfCell_35 : decode cX3_widthOfCell 35 = .ok (.iload 4, 2) := by decide +kernel
theorem dX3_widthOfCell_37 : decode cX3_widthOfCell 37 = .ok (.if_icmp .ge 29, 3) := by decide +kernel
theorem dX3_widthOfCell_40 : decode cX3_widthOfCell 40 = .ok (.iload_n 3, 1) := by decide +kernel
theorem dX3_widthOfCell_41 : decode cX3_widthOfCell 41 = .ok (.aload_n 0, 1) := by decide +kernel
theorem dX3_widthOfCell_42 : decode cX3_widthOfCell 42 = .ok (.iload 5, 2) := by decide +kernel
theorem dX3_widthOfCell_44 : decode cX3_widthOfCell 44 = .ok (.invokevirtual 115, 3) := by decide +kernel
theorem dX3_widthOfCell_47 : decode cX3_widthOfCell 47 = .ok (.ifCond .eq 10, 3) := by decide +kernel
theorem dX3_widthOfCell_50 : decode cX3_widthOfCell 50 = .ok (.aload_n 2, 1) := by decide +kernel
theorem dX3_widthOfCell_51 : decode cX3_widthOfCell 51 = .ok (.iload 5, 2) := by decide +kernel
theorem dX3_widthOfCell_53 : decode cX3_widthOfCell 53 = .ok (.iaload, 1) := by decide +kernel
theorem dX3_widthOfCell_54 : decode cX3_widthOfCell 54 = .ok (.goto 4, 3) := by decide +kernel
theorem dX3_widthOfCell_57 : decode cX3_widthOfCell 57 = .ok (.iconst 0, 1) := by decide +kernel
theorem dX3_widthOfCell_58 : decode cX3_widthOfCell 58 = .ok (.iadd, 1) := by decide +kernel
theorem dX3_widthOfCell_59 : decode cX3_widthOfCell 59 = .ok (.istore_n 3, 1) := by decide +kernel
theorem dX3_widthOfCell_60 : decode cX3_widthOfCell 60 = .ok (.iinc 5 1, 3) := by decide +kernel
theorem dX3_widthOfCell_63 : decode cX3_widthOfCell 63 = .ok (.goto (-30), 3) := by decide +kernel
theorem dX3_widthOfCell_66 : decode cX3_widthOfCell 66 = .ok (.iload_n 3, 1) := by decide +kernel
theorem dX3_widthOfCell_67 : decode cX3_widthOfCell 67 = .ok (.ireturn, 1) := by decide +kernel
section
variable {p : Program} {l : Launch} {e : Env} {s : State} {m : MethodId} {args : Array Value} {below : List Frame} {meth : Method} {c : Code} {G : Gx} {e0 : Nat} {α : Ax} {κ : Nat → Int} {B : Nat}
def wp_X9_notesAtEnd (M : Mem) (Qm : Int → Mem → Prop) : Prop := ∀ M1 : Mem, M1 = up M 10 0 10 1 → (bit (if ¬ (M1 10 0 9) = 0 then (0 : Int) else 1)) ∧ ∀ M8 : Mem, M8 = up M1 10 0 9 (if ¬ (M1 10 0 9) = 0 then (0 : Int) else 1) → (bit (M8 10 0 9)) ∧ Qm (M8 10 0 9) M8
set_option maxHeartbeats 4000000 in
set_option maxRecDepth 100000 in
theorem t_X9_notesAtEnd (X : CX p m c cX9_notesAtEnd 1 s args RX9 G B κ meth (some .boolean)) {M : Mem} {Qm : Int → Mem → Prop} (hw : wp_X9_notesAtEnd M Qm) (H : Heap) (locs : List Loc) (hR : Rp G e0 α κ B M H) (hS : va_S (fun q => B ≤ q) s.heap H locs) (ls : Array Slot) (hl : lv_has ls 1 [(0, .ref (α 10 0))]) : WI p l e 0 s m args below meth c G e0 α κ B Qm H locs 0 ls [] := by
  have hw : ∀ M1 : Mem, M1 = up M 10 0 10 1 → (bit (if ¬ (M1 10 0 9) = 0 then (0 : Int) else 1)) ∧ ∀ M8 : Mem, M8 = up M1 10 0 9 (if ¬ (M1 10 0 9) = 0 then (0 : Int) else 1) → (bit (M8 10 0 9)) ∧ Qm (M8 10 0 9) M8 := hw
  refine lv_aload_n X.1.1 X.1.2.1 dX9_notesAtEnd_0 rfl (lv_at hl 0 rfl) ?_
  refine sa_const X.1 dX9_notesAtEnd_1 ?_
  refine pt_10_10 X hR hS (okf X.2.2.1 rfl) (Or.inr rfl) kw_342 dX9_notesAtEnd_2 (fun H locs hR hS => ?_)
  obtain ⟨M1, e2⟩ : ∃ z : Mem, z = up M 10 0 10 1 := ⟨_, rfl⟩
  rw [← e2] at hR
  have hw := hw M1 e2
  refine lv_aload_n X.1.1 X.1.2.1 dX9_notesAtEnd_5 rfl (lv_at hl 0 rfl) ?_
  refine lv_aload_n X.1.1 X.1.2.1 dX9_notesAtEnd_6 rfl (lv_at hl 0 rfl) ?_
  refine gt_10_9 X hR (okf X.2.2.1 rfl) kw_341 dX9_notesAtEnd_7 ?_
  have r3 := hR.r 10 0 9
  have r4 := inR_ite (c := ¬ (M1 10 0 9) = 0) (inR_c (a := 0) rfl) (inR_c (a := 1) rfl)
  refine cut_j (A := ∀ v5 : Int, v5 = (if ¬ (M1 10 0 9) = 0 then (0 : Int) else 1) → WI p l e 0 s m args below meth c G e0 α κ B Qm H locs 18 ls [.int (Int32.ofInt v5), .ref (α 10 0)]) (fun J6 => ?_) ?_
  · refine sa_if_ne (tgt := 17) X.1 r3 dX9_notesAtEnd_10 (by decide) (fun hc => ?_) (fun hc => ?_)
    · skip
      refine sa_const X.1 dX9_notesAtEnd_17 ?_
      exact J6 (0) (if_pos (c := ¬ (M1 10 0 9) = 0) hc).symm
    · skip
      refine sa_const X.1 dX9_notesAtEnd_13 ?_
      refine lv_goto (tgt := 18) X.1.1 X.1.2.1 dX9_notesAtEnd_14 (by decide) ?_
      exact J6 (1) (if_neg (c := ¬ (M1 10 0 9) = 0) (fun z => z hc)).symm
  intro v5 hv5
  subst hv5
  have c7 := hw.1
  have hw := hw.2
  refine pt_10_9 X hR hS (okf X.2.2.1 rfl) c7 kw_341 dX9_notesAtEnd_18 (fun H locs hR hS => ?_)
  obtain ⟨M8, e9⟩ : ∃ z : Mem, z = up M1 10 0 9 (if ¬ (M1 10 0 9) = 0 then (0 : Int) else 1) := ⟨_, rfl⟩
  rw [← e9] at hR
  have hw := hw M8 e9
  refine lv_aload_n X.1.1 X.1.2.1 dX9_notesAtEnd_21 rfl (lv_at hl 0 rfl) ?_
  refine gt_10_9 X hR (okf X.2.2.1 rfl) kw_341 dX9_notesAtEnd_22 ?_
  have r10 := hR.r 10 0 9
  have c11 := hw.1
  have hw := hw.2
  exact sa_zret X.1 X.2.2.2.1 X.2.2.2.2 hR hS c11 hw dX9_notesAtEnd_25
theorem m_X9_notesAtEnd {l : Launch} {G : Gx} {e0 : Nat} {α : Ax} {κ : Nat → Int} {B : Nat} (hκ : kOK κ) {M : Mem} {Qm : Int → Mem → Prop} (hw : wp_X9_notesAtEnd M Qm) : CI l yX9_notesAtEnd (Cond.code yX9_notesAtEnd cX9_notesAtEnd 1 (some .boolean)) 0 G e0 α κ B [.ref (α 10 0)] M Qm :=
  CI.mk hκ (by decide +kernel) rfl (Nat.le_of_ble_eq_true rfl) (lv := [(0, .ref (α 10 0))]) rfl (fun p e s m args below meth c ls X hR hS hl => t_X9_notesAtEnd X hw _ _ hR hS ls hl)
theorem cs_X9_notesAtEnd {cc : ByteArray} {nL : Nat} {own : String} {ret : Option FieldType} {idx pc : Nat} (X : CX p m c cc nL s args own G B κ meth ret) {kc : Nat} {R : Room} {cells slots : Nat} (hRr : RmOK R kc) (hcel : cells ≤ R.cells ∧ slots ≤ R.slots) (hk : 0 + 1 ≤ kc) {M : Mem} {H : Heap} {locs : List Loc} (hR : Rp G e0 α κ B M H) (hS : va_S (fun q => B ≤ q) s.heap H locs) (k1 : Cond.methodLink own idx yX9_notesAtEnd ∈ gw) {ls : Array Slot} (hml : ls.size = nL) {rest : List Value} (hd : decode cc pc = .ok (.invokevirtual idx, 3)) (hrest : (rest.map fun v => v.category).sum ≤ 8) {Q : State → Prop} {Qm : Int → Mem → Prop} (hw : wp_X9_notesAtEnd M Qm) (kk : ∀ (r : Int) (M1 : Mem) (H1 : Heap) (locs1 : List Loc), Qm r M1 → inR r → Rp G e0 α κ B M1 H1 → va_S (fun q => B ≤ q) s.heap H1 locs1 → W p l e R s m args below meth c H1 locs1 cells slots Q (F0 m (pc + 3) ls (.int (Int32.ofInt r) :: rest))) : W p l e R s m args below meth c H locs cells slots Q (F0 m pc ls (.ref (α 10 0) :: rest)) :=
  sa_callVI 0 (n := 0) (As := []) (rest := rest) X.1 X.2.1 hR hS (m_X9_notesAtEnd X.2.2.1 hw) k1 kw_1171 kw_1172 kw_38 kw_1173 ⟨rfl, by decide +kernel, by decide +kernel, by decide +kernel⟩ (rm_ok hRr hk (by decide)) (rc_10 X hR (okf X.2.2.1 rfl)) rfl rfl hrest hml hd hcel kk
def wp_X9_isFigure_14 (p0 : Int) (p1 : Int) (Qm : Int → Mem → Prop) (M : Mem) : Prop := Qm 0 M
def wp_X9_isFigure_25 (p0 : Int) (p1 : Int) (Qm : Int → Mem → Prop) (M : Mem) : Prop := Qm 0 M
def wp_X9_isFigure (p0 : Int) (p1 : Int) (M : Mem) (Qm : Int → Mem → Prop) : Prop := ((p0 < (-1000000) → wp_X9_isFigure_14 p0 p1 Qm M) ∧ ((-1000000) ≤ p0 → ((p0 ≤ 1000000 → ((p1 < 0 → wp_X9_isFigure_25 p0 p1 Qm M) ∧ (0 ≤ p1 → ((p1 ≤ 2 → (0 < (if ¬ p1 = 0 then (if ¬ p1 = 1 then (1 : Int) else 10) else 100)) ∧ (bit (if ¬ (Int.tmod p0 (if ¬ p1 = 0 then (if ¬ p1 = 1 then (1 : Int) else 10) else 100)) = 0 then (0 : Int) else 1)) ∧ Qm (if ¬ (Int.tmod p0 (if ¬ p1 = 0 then (if ¬ p1 = 1 then (1 : Int) else 10) else 100)) = 0 then (0 : Int) else 1) M) ∧ (2 < p1 → wp_X9_isFigure_25 p0 p1 Qm M))))) ∧ (1000000 < p0 → wp_X9_isFigure_14 p0 p1 Qm M))))
set_option maxHeartbeats 4000000 in
set_option maxRecDepth 100000 in
theorem t_X9_isFigure_14 {p0 : Int} {p1 : Int} (X : CX p m c cX9_isFigure 3 s args RX9 G B κ meth (some .boolean)) (hp0 : inR p0) (hp1 : inR p1) {Qm : Int → Mem → Prop} : ∀ M : Mem, wp_X9_isFigure_14 p0 p1 Qm M → ∀ (H : Heap) (locs : List Loc), Rp G e0 α κ B M H → va_S (fun q => B ≤ q) s.heap H locs → ∀ (ls : Array Slot), lv_has ls 3 [] → WI p l e 0 s m args below meth c G e0 α κ B Qm H locs 14 ls [] := by
  intro M hw H locs hR hS ls hl
  have hw : Qm 0 M := hw
  refine sa_const X.1 dX9_isFigure_14 ?_
  exact sa_zret X.1 X.2.2.2.1 X.2.2.2.2 hR hS (Or.inl rfl) hw dX9_isFigure_15
set_option maxHeartbeats 4000000 in
set_option maxRecDepth 100000 in
theorem t_X9_isFigure_25 {p0 : Int} {p1 : Int} (X : CX p m c cX9_isFigure 3 s args RX9 G B κ meth (some .boolean)) (hp0 : inR p0) (hp1 : inR p1) {Qm : Int → Mem → Prop} : ∀ M : Mem, wp_X9_isFigure_25 p0 p1 Qm M → ∀ (H : Heap) (locs : List Loc), Rp G e0 α κ B M H → va_S (fun q => B ≤ q) s.heap H locs → ∀ (ls : Array Slot), lv_has ls 3 [] → WI p l e 0 s m args below meth c G e0 α κ B Qm H locs 25 ls [] := by
  intro M hw H locs hR hS ls hl
  have hw : Qm 0 M := hw
  refine sa_const X.1 dX9_isFigure_25 ?_
  exact sa_zret X.1 X.2.2.2.1 X.2.2.2.2 hR hS (Or.inl rfl) hw dX9_isFigure_26
set_option maxHeartbeats 4000000 in
set_option maxRecDepth 100000 in
theorem t_X9_isFigure {p0 : Int} {p1 : Int} (X : CX p m c cX9_isFigure 3 s args RX9 G B κ meth (some .boolean)) (hp0 : inR p0) (hp1 : inR p1) {M : Mem} {Qm : Int → Mem → Prop} (hw : wp_X9_isFigure p0 p1 M Qm) (H : Heap) (locs : List Loc) (hR : Rp G e0 α κ B M H) (hS : va_S (fun q => B ≤ q) s.heap H locs) (ls : Array Slot) (hl : lv_has ls 3 [(0, .int (Int32.ofInt p0)), (1, .int (Int32.ofInt p1))]) : WI p l e 0 s m args below meth c G e0 α κ B Qm H locs 0 ls [] := by
  have hw : ((p0 < (-1000000) → wp_X9_isFigure_14 p0 p1 Qm M) ∧ ((-1000000) ≤ p0 → ((p0 ≤ 1000000 → ((p1 < 0 → wp_X9_isFigure_25 p0 p1 Qm M) ∧ (0 ≤ p1 → ((p1 ≤ 2 → (0 < (if ¬ p1 = 0 then (if ¬ p1 = 1 then (1 : Int) else 10) else 100)) ∧ (bit (if ¬ (Int.tmod p0 (if ¬ p1 = 0 then (if ¬ p1 = 1 then (1 : Int) else 10) else 100)) = 0 then (0 : Int) else 1)) ∧ Qm (if ¬ (Int.tmod p0 (if ¬ p1 = 0 then (if ¬ p1 = 1 then (1 : Int) else 10) else 100)) = 0 then (0 : Int) else 1) M) ∧ (2 < p1 → wp_X9_isFigure_25 p0 p1 Qm M))))) ∧ (1000000 < p0 → wp_X9_isFigure_14 p0 p1 Qm M)))) := hw
  refine lv_iload_n X.1.1 X.1.2.1 dX9_isFigure_0 rfl (lv_at hl 0 rfl) ?_
  refine sa_ldcw (n := -1000000) X.1 (by decide) kw_1102 dX9_isFigure_1 ?_
  refine sa_icmp_lt (tgt := 14) X.1 hp0 (inR_c (a := -1000000) rfl) dX9_isFigure_4 (by decide) (fun hc => ?_) (fun hc => ?_)
  · have hw := hw.1 hc
    exact t_X9_isFigure_14 X hp0 hp1 _ hw _ _ hR hS _ (lv_sub hl [] rfl)
  · have hw := hw.2 hc
    refine lv_iload_n X.1.1 X.1.2.1 dX9_isFigure_7 rfl (lv_at hl 0 rfl) ?_
    refine sa_ldcw (n := 1000000) X.1 (by decide) kw_1103 dX9_isFigure_8 ?_
    refine sa_icmp_le (tgt := 16) X.1 hp0 (inR_c (a := 1000000) rfl) dX9_isFigure_11 (by decide) (fun hc => ?_) (fun hc => ?_)
    · have hw := hw.1 hc
      refine lv_iload_n X.1.1 X.1.2.1 dX9_isFigure_16 rfl (lv_at hl 1 rfl) ?_
      refine sa_if_lt (tgt := 25) X.1 hp1 dX9_isFigure_17 (by decide) (fun hc => ?_) (fun hc => ?_)
      · have hw := hw.1 hc
        exact t_X9_isFigure_25 X hp0 hp1 _ hw _ _ hR hS _ (lv_sub hl [] rfl)
      · have hw := hw.2 hc
        refine lv_iload_n X.1.1 X.1.2.1 dX9_isFigure_20 rfl (lv_at hl 1 rfl) ?_
        refine sa_const X.1 dX9_isFigure_21 ?_
        refine sa_icmp_le (tgt := 27) X.1 hp1 (inR_c (a := 2) rfl) dX9_isFigure_22 (by decide) (fun hc => ?_) (fun hc => ?_)
        · have hw := hw.1 hc
          refine lv_iload_n X.1.1 X.1.2.1 dX9_isFigure_27 rfl (lv_at hl 1 rfl) ?_
          have r3 := inR_ite (c := ¬ p1 = 0) (inR_ite (c := ¬ p1 = 1) (inR_c (a := 1) rfl) (inR_c (a := 10) rfl)) (inR_c (a := 100) rfl)
          refine cut_j (A := ∀ v4 : Int, v4 = (if ¬ p1 = 0 then (if ¬ p1 = 1 then (1 : Int) else 10) else 100) → WI p l e 0 s m args below meth c G e0 α κ B Qm H locs 47 ls [.int (Int32.ofInt v4)]) (fun J5 => ?_) ?_
          · refine sa_if_ne (tgt := 36) X.1 hp1 dX9_isFigure_28 (by decide) (fun hc => ?_) (fun hc => ?_)
            · skip
              refine lv_iload_n X.1.1 X.1.2.1 dX9_isFigure_36 rfl (lv_at hl 1 rfl) ?_
              refine sa_const X.1 dX9_isFigure_37 ?_
              refine cut_j (A := ∀ v1 : Int, v1 = (if ¬ p1 = 1 then (1 : Int) else 10) → WI p l e 0 s m args below meth c G e0 α κ B Qm H locs 47 ls [.int (Int32.ofInt v1)]) (fun J2 => ?_) ?_
              · refine sa_icmp_ne (tgt := 46) X.1 hp1 (inR_c (a := 1) rfl) dX9_isFigure_38 (by decide) (fun hc => ?_) (fun hc => ?_)
                · skip
                  refine sa_const X.1 dX9_isFigure_46 ?_
                  exact J2 (1) (if_pos (c := ¬ p1 = 1) hc).symm
                · skip
                  refine sa_bipush X.1 dX9_isFigure_41 (by decide) ?_
                  refine lv_goto (tgt := 47) X.1.1 X.1.2.1 dX9_isFigure_43 (by decide) ?_
                  exact J2 (10) (if_neg (c := ¬ p1 = 1) (fun z => z hc)).symm
              intro v1 hv1
              subst hv1
              exact J5 ((if ¬ p1 = 1 then (1 : Int) else 10)) (if_pos (c := ¬ p1 = 0) hc).symm
            · skip
              refine sa_bipush X.1 dX9_isFigure_31 (by decide) ?_
              refine lv_goto (tgt := 47) X.1.1 X.1.2.1 dX9_isFigure_33 (by decide) ?_
              exact J5 (100) (if_neg (c := ¬ p1 = 0) (fun z => z hc)).symm
          intro v4 hv4
          subst hv4
          refine lv_istore_n (lv' := [(2, .int (Int32.ofInt (if ¬ p1 = 0 then (if ¬ p1 = 1 then (1 : Int) else 10) else 100))), (0, .int (Int32.ofInt p0)), (1, .int (Int32.ofInt p1))]) X.1.1 X.1.2.1 dX9_isFigure_47 rfl hl (by decide) rfl (fun ls hl => ?_)
          refine lv_iload_n X.1.1 X.1.2.1 dX9_isFigure_48 rfl (lv_at hl 1 rfl) ?_
          refine lv_iload_n X.1.1 X.1.2.1 dX9_isFigure_49 rfl (lv_at hl 0 rfl) ?_
          have c6 := hw.1
          have hw := hw.2
          have r7 := inR_tmod hp0 r3 c6
          refine sa_irem X.1 hp0 r3 (Int.ne_of_gt c6) dX9_isFigure_50 ?_
          have r8 := inR_ite (c := ¬ (Int.tmod p0 (if ¬ p1 = 0 then (if ¬ p1 = 1 then (1 : Int) else 10) else 100)) = 0) (inR_c (a := 0) rfl) (inR_c (a := 1) rfl)
          refine cut_j (A := ∀ v9 : Int, v9 = (if ¬ (Int.tmod p0 (if ¬ p1 = 0 then (if ¬ p1 = 1 then (1 : Int) else 10) else 100)) = 0 then (0 : Int) else 1) → WI p l e 0 s m args below meth c G e0 α κ B Qm H locs 59 ls [.int (Int32.ofInt v9)]) (fun J10 => ?_) ?_
          · refine sa_if_ne (tgt := 58) X.1 r7 dX9_isFigure_51 (by decide) (fun hc => ?_) (fun hc => ?_)
            · skip
              refine sa_const X.1 dX9_isFigure_58 ?_
              exact J10 (0) (if_pos (c := ¬ (Int.tmod p0 (if ¬ p1 = 0 then (if ¬ p1 = 1 then (1 : Int) else 10) else 100)) = 0) hc).symm
            · skip
              refine sa_const X.1 dX9_isFigure_54 ?_
              refine lv_goto (tgt := 59) X.1.1 X.1.2.1 dX9_isFigure_55 (by decide) ?_
              exact J10 (1) (if_neg (c := ¬ (Int.tmod p0 (if ¬ p1 = 0 then (if ¬ p1 = 1 then (1 : Int) else 10) else 100)) = 0) (fun z => z hc)).symm
          intro v9 hv9
          subst hv9
          have c11 := hw.1
          have hw := hw.2
          exact sa_zret X.1 X.2.2.2.1 X.2.2.2.2 hR hS c11 hw dX9_isFigure_59
        · have hw := hw.2 hc
          exact t_X9_isFigure_25 X hp0 hp1 _ hw _ _ hR hS _ (lv_sub hl [] rfl)
    · have hw := hw.2 hc
      exact t_X9_isFigure_14 X hp0 hp1 _ hw _ _ hR hS _ (lv_sub hl [] rfl)
theorem m_X9_isFigure {l : Launch} {G : Gx} {e0 : Nat} {α : Ax} {κ : Nat → Int} {B : Nat} {p0 : Int} {p1 : Int} (hκ : kOK κ) (hp0 : inR p0) (hp1 : inR p1) {M : Mem} {Qm : Int → Mem → Prop} (hw : wp_X9_isFigure p0 p1 M Qm) : CI l yX9_isFigure (Cond.code yX9_isFigure cX9_isFigure 3 (some .boolean)) 0 G e0 α κ B [.int (Int32.ofInt p0), .int (Int32.ofInt p1)] M Qm :=
  CI.mk hκ (by decide +kernel) rfl (Nat.le_of_ble_eq_true rfl) (lv := [(0, .int (Int32.ofInt p0)), (1, .int (Int32.ofInt p1))]) rfl (fun p e s m args below meth c ls X hR hS hl => t_X9_isFigure X hp0 hp1 hw _ _ hR hS ls hl)
theorem cs_X9_isFigure {cc : ByteArray} {nL : Nat} {own : String} {ret : Option FieldType} {idx pc : Nat} {p0 : Int} {p1 : Int} (X : CX p m c cc nL s args own G B κ meth ret) (hp0 : inR p0) (hp1 : inR p1) {kc : Nat} {R : Room} {cells slots : Nat} (hRr : RmOK R kc) (hcel : cells ≤ R.cells ∧ slots ≤ R.slots) (hk : 0 + 1 ≤ kc) {M : Mem} {H : Heap} {locs : List Loc} (hR : Rp G e0 α κ B M H) (hS : va_S (fun q => B ≤ q) s.heap H locs) (k1 : Cond.methodLink own idx yX9_isFigure ∈ gw) {ls : Array Slot} (hml : ls.size = nL) {rest : List Value} (hd : decode cc pc = .ok (.invokestatic idx, 3)) (hrest : (rest.map fun v => v.category).sum ≤ 8) {Q : State → Prop} {Qm : Int → Mem → Prop} (hw : wp_X9_isFigure p0 p1 M Qm) (kk : ∀ (r : Int) (M1 : Mem) (H1 : Heap) (locs1 : List Loc), Qm r M1 → inR r → Rp G e0 α κ B M1 H1 → va_S (fun q => B ≤ q) s.heap H1 locs1 → W p l e R s m args below meth c H1 locs1 cells slots Q (F0 m (pc + 3) ls (.int (Int32.ofInt r) :: rest))) : W p l e R s m args below meth c H locs cells slots Q (F0 m pc ls (.int (Int32.ofInt p1) :: .int (Int32.ofInt p0) :: rest)) :=
  sa_callSI 0 (n := 2) (As := [.int (Int32.ofInt p0), .int (Int32.ofInt p1)]) (rest := rest) X.1 X.2.1 hR hS (m_X9_isFigure X.2.2.1 hp0 hp1 hw) k1 kw_1100 kw_38 kw_1101 ⟨by decide +kernel, by decide +kernel, by decide +kernel⟩ (rm_ok hRr hk (by decide)) rfl rfl hrest hml hd hcel kk
def wp_X9_hasSide (p0 : Int) (p1 : Int) (M : Mem) (Qm : Int → Mem → Prop) : Prop := ((p0 = 0 → (bit (if p1 < 0 then (0 : Int) else (if 3 < p1 then (0 : Int) else 1))) ∧ Qm (if p1 < 0 then (0 : Int) else (if 3 < p1 then (0 : Int) else 1)) M) ∧ (p0 = 1 → (bit (if p1 = 0 then (1 : Int) else (if ¬ p1 = 2 then (0 : Int) else 1))) ∧ Qm (if p1 = 0 then (1 : Int) else (if ¬ p1 = 2 then (0 : Int) else 1)) M) ∧ (p0 = 2 → (bit (if p1 = 1 then (1 : Int) else (if ¬ p1 = 3 then (0 : Int) else 1))) ∧ Qm (if p1 = 1 then (1 : Int) else (if ¬ p1 = 3 then (0 : Int) else 1)) M) ∧ ((p0 < 0 ∨ 2 < p0) → (bit (if ¬ p0 = 3 then (0 : Int) else 1)) ∧ Qm (if ¬ p0 = 3 then (0 : Int) else 1) M))
set_option maxHeartbeats 4000000 in
set_option maxRecDepth 100000 in
theorem t_X9_hasSide {p0 : Int} {p1 : Int} (X : CX p m c cX9_hasSide 2 s args RX9 G B κ meth (some .boolean)) (hp0 : inR p0) (hp1 : inR p1) {M : Mem} {Qm : Int → Mem → Prop} (hw : wp_X9_hasSide p0 p1 M Qm) (H : Heap) (locs : List Loc) (hR : Rp G e0 α κ B M H) (hS : va_S (fun q => B ≤ q) s.heap H locs) (ls : Array Slot) (hl : lv_has ls 2 [(0, .int (Int32.ofInt p0)), (1, .int (Int32.ofInt p1))]) : WI p l e 0 s m args below meth c G e0 α κ B Qm H locs 0 ls [] := by
  have hw : ((p0 = 0 → (bit (if p1 < 0 then (0 : Int) else (if 3 < p1 then (0 : Int) else 1))) ∧ Qm (if p1 < 0 then (0 : Int) else (if 3 < p1 then (0 : Int) else 1)) M) ∧ (p0 = 1 → (bit (if p1 = 0 then (1 : Int) else (if ¬ p1 = 2 then (0 : Int) else 1))) ∧ Qm (if p1 = 0 then (1 : Int) else (if ¬ p1 = 2 then (0 : Int) else 1)) M) ∧ (p0 = 2 → (bit (if p1 = 1 then (1 : Int) else (if ¬ p1 = 3 then (0 : Int) else 1))) ∧ Qm (if p1 = 1 then (1 : Int) else (if ¬ p1 = 3 then (0 : Int) else 1)) M) ∧ ((p0 < 0 ∨ 2 < p0) → (bit (if ¬ p0 = 3 then (0 : Int) else 1)) ∧ Qm (if ¬ p0 = 3 then (0 : Int) else 1) M)) := hw
  refine lv_iload_n X.1.1 X.1.2.1 dX9_hasSide_0 rfl (lv_at hl 0 rfl) ?_
  rcases (show p0 = 0 ∨ p0 = 1 ∨ p0 = 2 ∨ (p0 < 0 ∨ 2 < p0) by omega) with hc | hc | hc | hc
  · have hw := hw.1 hc
    refine sa_tsw (tgt := 28) X.1 hp0 hc dX9_hasSide_1 (by decide) (by decide) rfl (by decide) ?_
    refine lv_iload_n X.1.1 X.1.2.1 dX9_hasSide_28 rfl (lv_at hl 1 rfl) ?_
    have r3 := inR_ite (c := p1 < 0) (inR_c (a := 0) rfl) (inR_ite (c := 3 < p1) (inR_c (a := 0) rfl) (inR_c (a := 1) rfl))
    refine cut_j (A := ∀ v4 : Int, v4 = (if p1 < 0 then (0 : Int) else (if 3 < p1 then (0 : Int) else 1)) → WI p l e 0 s m args below meth c G e0 α κ B Qm H locs 42 ls [.int (Int32.ofInt v4)]) (fun J5 => ?_) ?_
    · refine sa_if_lt (tgt := 41) X.1 hp1 dX9_hasSide_29 (by decide) (fun hc => ?_) (fun hc => ?_)
      · skip
        refine sa_const X.1 dX9_hasSide_41 ?_
        exact J5 (0) (if_pos (c := p1 < 0) hc).symm
      · skip
        refine lv_iload_n X.1.1 X.1.2.1 dX9_hasSide_32 rfl (lv_at hl 1 rfl) ?_
        refine sa_const X.1 dX9_hasSide_33 ?_
        refine cut_j (A := ∀ v1 : Int, v1 = (if 3 < p1 then (0 : Int) else 1) → WI p l e 0 s m args below meth c G e0 α κ B Qm H locs 42 ls [.int (Int32.ofInt v1)]) (fun J2 => ?_) ?_
        · refine sa_icmp_gt (tgt := 41) X.1 hp1 (inR_c (a := 3) rfl) dX9_hasSide_34 (by decide) (fun hc => ?_) (fun hc => ?_)
          · skip
            refine sa_const X.1 dX9_hasSide_41 ?_
            exact J2 (0) (if_pos (c := 3 < p1) hc).symm
          · skip
            refine sa_const X.1 dX9_hasSide_37 ?_
            refine lv_goto (tgt := 42) X.1.1 X.1.2.1 dX9_hasSide_38 (by decide) ?_
            exact J2 (1) (if_neg (c := 3 < p1) (Int.not_lt.mpr hc)).symm
        intro v1 hv1
        subst hv1
        exact J5 ((if 3 < p1 then (0 : Int) else 1)) (if_neg (c := p1 < 0) (Int.not_lt.mpr hc)).symm
    intro v4 hv4
    subst hv4
    have c6 := hw.1
    have hw := hw.2
    exact sa_zret X.1 X.2.2.2.1 X.2.2.2.2 hR hS c6 hw dX9_hasSide_42
  · have hw := hw.2.1 hc
    refine sa_tsw (tgt := 43) X.1 hp0 hc dX9_hasSide_1 (by decide) (by decide) rfl (by decide) ?_
    refine lv_iload_n X.1.1 X.1.2.1 dX9_hasSide_43 rfl (lv_at hl 1 rfl) ?_
    have r9 := inR_ite (c := p1 = 0) (inR_c (a := 1) rfl) (inR_ite (c := ¬ p1 = 2) (inR_c (a := 0) rfl) (inR_c (a := 1) rfl))
    refine cut_j (A := ∀ v10 : Int, v10 = (if p1 = 0 then (1 : Int) else (if ¬ p1 = 2 then (0 : Int) else 1)) → WI p l e 0 s m args below meth c G e0 α κ B Qm H locs 57 ls [.int (Int32.ofInt v10)]) (fun J11 => ?_) ?_
    · refine sa_if_eq (tgt := 52) X.1 hp1 dX9_hasSide_44 (by decide) (fun hc => ?_) (fun hc => ?_)
      · skip
        refine sa_const X.1 dX9_hasSide_52 ?_
        refine lv_goto (tgt := 57) X.1.1 X.1.2.1 dX9_hasSide_53 (by decide) ?_
        exact J11 (1) (if_pos (c := p1 = 0) hc).symm
      · skip
        refine lv_iload_n X.1.1 X.1.2.1 dX9_hasSide_47 rfl (lv_at hl 1 rfl) ?_
        refine sa_const X.1 dX9_hasSide_48 ?_
        refine cut_j (A := ∀ v7 : Int, v7 = (if ¬ p1 = 2 then (0 : Int) else 1) → WI p l e 0 s m args below meth c G e0 α κ B Qm H locs 57 ls [.int (Int32.ofInt v7)]) (fun J8 => ?_) ?_
        · refine sa_icmp_ne (tgt := 56) X.1 hp1 (inR_c (a := 2) rfl) dX9_hasSide_49 (by decide) (fun hc => ?_) (fun hc => ?_)
          · skip
            refine sa_const X.1 dX9_hasSide_56 ?_
            exact J8 (0) (if_pos (c := ¬ p1 = 2) hc).symm
          · skip
            refine sa_const X.1 dX9_hasSide_52 ?_
            refine lv_goto (tgt := 57) X.1.1 X.1.2.1 dX9_hasSide_53 (by decide) ?_
            exact J8 (1) (if_neg (c := ¬ p1 = 2) (fun z => z hc)).symm
        intro v7 hv7
        subst hv7
        exact J11 ((if ¬ p1 = 2 then (0 : Int) else 1)) (if_neg (c := p1 = 0) hc).symm
    intro v10 hv10
    subst hv10
    have c12 := hw.1
    have hw := hw.2
    exact sa_zret X.1 X.2.2.2.1 X.2.2.2.2 hR hS c12 hw dX9_hasSide_57
  · have hw := hw.2.2.1 hc
    refine sa_tsw (tgt := 58) X.1 hp0 hc dX9_hasSide_1 (by decide) (by decide) rfl (by decide) ?_
    refine lv_iload_n X.1.1 X.1.2.1 dX9_hasSide_58 rfl (lv_at hl 1 rfl) ?_
    refine sa_const X.1 dX9_hasSide_59 ?_
    have r15 := inR_ite (c := p1 = 1) (inR_c (a := 1) rfl) (inR_ite (c := ¬ p1 = 3) (inR_c (a := 0) rfl) (inR_c (a := 1) rfl))
    refine cut_j (A := ∀ v16 : Int, v16 = (if p1 = 1 then (1 : Int) else (if ¬ p1 = 3 then (0 : Int) else 1)) → WI p l e 0 s m args below meth c G e0 α κ B Qm H locs 73 ls [.int (Int32.ofInt v16)]) (fun J17 => ?_) ?_
    · refine sa_icmp_eq (tgt := 68) X.1 hp1 (inR_c (a := 1) rfl) dX9_hasSide_60 (by decide) (fun hc => ?_) (fun hc => ?_)
      · skip
        refine sa_const X.1 dX9_hasSide_68 ?_
        refine lv_goto (tgt := 73) X.1.1 X.1.2.1 dX9_hasSide_69 (by decide) ?_
        exact J17 (1) (if_pos (c := p1 = 1) hc).symm
      · skip
        refine lv_iload_n X.1.1 X.1.2.1 dX9_hasSide_63 rfl (lv_at hl 1 rfl) ?_
        refine sa_const X.1 dX9_hasSide_64 ?_
        refine cut_j (A := ∀ v13 : Int, v13 = (if ¬ p1 = 3 then (0 : Int) else 1) → WI p l e 0 s m args below meth c G e0 α κ B Qm H locs 73 ls [.int (Int32.ofInt v13)]) (fun J14 => ?_) ?_
        · refine sa_icmp_ne (tgt := 72) X.1 hp1 (inR_c (a := 3) rfl) dX9_hasSide_65 (by decide) (fun hc => ?_) (fun hc => ?_)
          · skip
            refine sa_const X.1 dX9_hasSide_72 ?_
            exact J14 (0) (if_pos (c := ¬ p1 = 3) hc).symm
          · skip
            refine sa_const X.1 dX9_hasSide_68 ?_
            refine lv_goto (tgt := 73) X.1.1 X.1.2.1 dX9_hasSide_69 (by decide) ?_
            exact J14 (1) (if_neg (c := ¬ p1 = 3) (fun z => z hc)).symm
        intro v13 hv13
        subst hv13
        exact J17 ((if ¬ p1 = 3 then (0 : Int) else 1)) (if_neg (c := p1 = 1) hc).symm
    intro v16 hv16
    subst hv16
    have c18 := hw.1
    have hw := hw.2
    exact sa_zret X.1 X.2.2.2.1 X.2.2.2.2 hR hS c18 hw dX9_hasSide_73
  · have hw := hw.2.2.2 hc
    refine sa_tswd (tgt := 74) X.1 hp0 hc dX9_hasSide_1 (by decide) ?_
    refine lv_iload_n X.1.1 X.1.2.1 dX9_hasSide_74 rfl (lv_at hl 0 rfl) ?_
    refine sa_const X.1 dX9_hasSide_75 ?_
    have r19 := inR_ite (c := ¬ p0 = 3) (inR_c (a := 0) rfl) (inR_c (a := 1) rfl)
    refine cut_j (A := ∀ v20 : Int, v20 = (if ¬ p0 = 3 then (0 : Int) else 1) → WI p l e 0 s m args below meth c G e0 α κ B Qm H locs 84 ls [.int (Int32.ofInt v20)]) (fun J21 => ?_) ?_
    · refine sa_icmp_ne (tgt := 83) X.1 hp0 (inR_c (a := 3) rfl) dX9_hasSide_76 (by decide) (fun hc => ?_) (fun hc => ?_)
      · skip
        refine sa_const X.1 dX9_hasSide_83 ?_
        exact J21 (0) (if_pos (c := ¬ p0 = 3) hc).symm
      · skip
        refine sa_const X.1 dX9_hasSide_79 ?_
        refine lv_goto (tgt := 84) X.1.1 X.1.2.1 dX9_hasSide_80 (by decide) ?_
        exact J21 (1) (if_neg (c := ¬ p0 = 3) (fun z => z hc)).symm
    intro v20 hv20
    subst hv20
    have c22 := hw.1
    have hw := hw.2
    exact sa_zret X.1 X.2.2.2.1 X.2.2.2.2 hR hS c22 hw dX9_hasSide_84
theorem m_X9_hasSide {l : Launch} {G : Gx} {e0 : Nat} {α : Ax} {κ : Nat → Int} {B : Nat} {p0 : Int} {p1 : Int} (hκ : kOK κ) (hp0 : inR p0) (hp1 : inR p1) {M : Mem} {Qm : Int → Mem → Prop} (hw : wp_X9_hasSide p0 p1 M Qm) : CI l yX9_hasSide (Cond.code yX9_hasSide cX9_hasSide 2 (some .boolean)) 0 G e0 α κ B [.int (Int32.ofInt p0), .int (Int32.ofInt p1)] M Qm :=
  CI.mk hκ (by decide +kernel) rfl (Nat.le_of_ble_eq_true rfl) (lv := [(0, .int (Int32.ofInt p0)), (1, .int (Int32.ofInt p1))]) rfl (fun p e s m args below meth c ls X hR hS hl => t_X9_hasSide X hp0 hp1 hw _ _ hR hS ls hl)
theorem cs_X9_hasSide {cc : ByteArray} {nL : Nat} {own : String} {ret : Option FieldType} {idx pc : Nat} {p0 : Int} {p1 : Int} (X : CX p m c cc nL s args own G B κ meth ret) (hp0 : inR p0) (hp1 : inR p1) {kc : Nat} {R : Room} {cells slots : Nat} (hRr : RmOK R kc) (hcel : cells ≤ R.cells ∧ slots ≤ R.slots) (hk : 0 + 1 ≤ kc) {M : Mem} {H : Heap} {locs : List Loc} (hR : Rp G e0 α κ B M H) (hS : va_S (fun q => B ≤ q) s.heap H locs) (k1 : Cond.methodLink own idx yX9_hasSide ∈ gw) {ls : Array Slot} (hml : ls.size = nL) {rest : List Value} (hd : decode cc pc = .ok (.invokestatic idx, 3)) (hrest : (rest.map fun v => v.category).sum ≤ 8) {Q : State → Prop} {Qm : Int → Mem → Prop} (hw : wp_X9_hasSide p0 p1 M Qm) (kk : ∀ (r : Int) (M1 : Mem) (H1 : Heap) (locs1 : List Loc), Qm r M1 → inR r → Rp G e0 α κ B M1 H1 → va_S (fun q => B ≤ q) s.heap H1 locs1 → W p l e R s m args below meth c H1 locs1 cells slots Q (F0 m (pc + 3) ls (.int (Int32.ofInt r) :: rest))) : W p l e R s m args below meth c H locs cells slots Q (F0 m pc ls (.int (Int32.ofInt p1) :: .int (Int32.ofInt p0) :: rest)) :=
  sa_callSI 0 (n := 2) (As := [.int (Int32.ofInt p0), .int (Int32.ofInt p1)]) (rest := rest) X.1 X.2.1 hR hS (m_X9_hasSide X.2.2.1 hp0 hp1 hw) k1 kw_1201 kw_38 kw_1202 ⟨by decide +kernel, by decide +kernel, by decide +kernel⟩ (rm_ok hRr hk (by decide)) rfl rfl hrest hml hd hcel kk
def wp_X9_strongest (p0 : Int) (p1 : Int) (p2 : Int) (p3 : Int) (M : Mem) (Qm : Int → Mem → Prop) : Prop := ((¬ (max (max p0 p1) (max p2 p3)) = 0 → (inR (10 * (max (max p0 p1) (max p2 p3)))) ∧ (inR ((10 * (max (max p0 p1) (max p2 p3))) + (if ¬ p0 = (max (max p0 p1) (max p2 p3)) then (if ¬ p1 = (max (max p0 p1) (max p2 p3)) then (if ¬ p2 = (max (max p0 p1) (max p2 p3)) then (3 : Int) else 2) else 1) else 0))) ∧ (inR (((10 * (max (max p0 p1) (max p2 p3))) + (if ¬ p0 = (max (max p0 p1) (max p2 p3)) then (if ¬ p1 = (max (max p0 p1) (max p2 p3)) then (if ¬ p2 = (max (max p0 p1) (max p2 p3)) then (3 : Int) else 2) else 1) else 0)) + 1)) ∧ Qm (((10 * (max (max p0 p1) (max p2 p3))) + (if ¬ p0 = (max (max p0 p1) (max p2 p3)) then (if ¬ p1 = (max (max p0 p1) (max p2 p3)) then (if ¬ p2 = (max (max p0 p1) (max p2 p3)) then (3 : Int) else 2) else 1) else 0)) + 1) M) ∧ ((max (max p0 p1) (max p2 p3)) = 0 → Qm 0 M))
set_option maxHeartbeats 4000000 in
set_option maxRecDepth 100000 in
theorem t_X9_strongest {p0 : Int} {p1 : Int} {p2 : Int} {p3 : Int} (X : CX p m c cX9_strongest 6 s args RX9 G B κ meth (some .int)) (hp0 : inR p0) (hp1 : inR p1) (hp2 : inR p2) (hp3 : inR p3) {M : Mem} {Qm : Int → Mem → Prop} (hw : wp_X9_strongest p0 p1 p2 p3 M Qm) (H : Heap) (locs : List Loc) (hR : Rp G e0 α κ B M H) (hS : va_S (fun q => B ≤ q) s.heap H locs) (ls : Array Slot) (hl : lv_has ls 6 [(0, .int (Int32.ofInt p0)), (1, .int (Int32.ofInt p1)), (2, .int (Int32.ofInt p2)), (3, .int (Int32.ofInt p3))]) : WI p l e 1 s m args below meth c G e0 α κ B Qm H locs 0 ls [] := by
  have hw : ((¬ (max (max p0 p1) (max p2 p3)) = 0 → (inR (10 * (max (max p0 p1) (max p2 p3)))) ∧ (inR ((10 * (max (max p0 p1) (max p2 p3))) + (if ¬ p0 = (max (max p0 p1) (max p2 p3)) then (if ¬ p1 = (max (max p0 p1) (max p2 p3)) then (if ¬ p2 = (max (max p0 p1) (max p2 p3)) then (3 : Int) else 2) else 1) else 0))) ∧ (inR (((10 * (max (max p0 p1) (max p2 p3))) + (if ¬ p0 = (max (max p0 p1) (max p2 p3)) then (if ¬ p1 = (max (max p0 p1) (max p2 p3)) then (if ¬ p2 = (max (max p0 p1) (max p2 p3)) then (3 : Int) else 2) else 1) else 0)) + 1)) ∧ Qm (((10 * (max (max p0 p1) (max p2 p3))) + (if ¬ p0 = (max (max p0 p1) (max p2 p3)) then (if ¬ p1 = (max (max p0 p1) (max p2 p3)) then (if ¬ p2 = (max (max p0 p1) (max p2 p3)) then (3 : Int) else 2) else 1) else 0)) + 1) M) ∧ ((max (max p0 p1) (max p2 p3)) = 0 → Qm 0 M)) := hw
  refine lv_iload_n X.1.1 X.1.2.1 dX9_strongest_0 rfl (lv_at hl 0 rfl) ?_
  refine lv_iload_n X.1.1 X.1.2.1 dX9_strongest_1 rfl (lv_at hl 1 rfl) ?_
  refine sa_max (R := rmL 1) X.1 hp0 hp1 hl.1 kw_1318 kmath_max_s kmath_i kmath_max_c (by decide) (Nat.le_of_ble_eq_true rfl) rm_c dX9_strongest_2 ?_
  refine lv_iload_n X.1.1 X.1.2.1 dX9_strongest_5 rfl (lv_at hl 2 rfl) ?_
  refine lv_iload_n X.1.1 X.1.2.1 dX9_strongest_6 rfl (lv_at hl 3 rfl) ?_
  refine sa_max (R := rmL 1) X.1 hp2 hp3 hl.1 kw_1318 kmath_max_s kmath_i kmath_max_c (by decide) (Nat.le_of_ble_eq_true rfl) rm_c dX9_strongest_7 ?_
  refine sa_max (R := rmL 1) X.1 (inR_max hp0 hp1) (inR_max hp2 hp3) hl.1 kw_1318 kmath_max_s kmath_i kmath_max_c (by decide) (Nat.le_of_ble_eq_true rfl) rm_c dX9_strongest_10 ?_
  refine lv_istore (lv' := [(4, .int (Int32.ofInt (max (max p0 p1) (max p2 p3)))), (0, .int (Int32.ofInt p0)), (1, .int (Int32.ofInt p1)), (2, .int (Int32.ofInt p2)), (3, .int (Int32.ofInt p3))]) X.1.1 X.1.2.1 dX9_strongest_13 hl (by decide) rfl (fun ls hl => ?_)
  refine lv_iload X.1.1 X.1.2.1 dX9_strongest_15 (lv_at hl 0 rfl) ?_
  refine sa_if_ne (tgt := 22) X.1 (inR_max (inR_max hp0 hp1) (inR_max hp2 hp3)) dX9_strongest_17 (by decide) (fun hc => ?_) (fun hc => ?_)
  · have hw := hw.1 hc
    refine lv_iload_n X.1.1 X.1.2.1 dX9_strongest_22 rfl (lv_at hl 1 rfl) ?_
    refine lv_iload X.1.1 X.1.2.1 dX9_strongest_23 (lv_at hl 0 rfl) ?_
    have r5 := inR_ite (c := ¬ p0 = (max (max p0 p1) (max p2 p3))) (inR_ite (c := ¬ p1 = (max (max p0 p1) (max p2 p3))) (inR_ite (c := ¬ p2 = (max (max p0 p1) (max p2 p3))) (inR_c (a := 3) rfl) (inR_c (a := 2) rfl)) (inR_c (a := 1) rfl)) (inR_c (a := 0) rfl)
    refine cut_j (A := ∀ v6 : Int, v6 = (if ¬ p0 = (max (max p0 p1) (max p2 p3)) then (if ¬ p1 = (max (max p0 p1) (max p2 p3)) then (if ¬ p2 = (max (max p0 p1) (max p2 p3)) then (3 : Int) else 2) else 1) else 0) → WI p l e 1 s m args below meth c G e0 α κ B Qm H locs 53 ls [.int (Int32.ofInt v6)]) (fun J7 => ?_) ?_
    · refine sa_icmp_ne (tgt := 32) X.1 hp0 (inR_max (inR_max hp0 hp1) (inR_max hp2 hp3)) dX9_strongest_25 (by decide) (fun hc => ?_) (fun hc => ?_)
      · skip
        refine lv_iload_n X.1.1 X.1.2.1 dX9_strongest_32 rfl (lv_at hl 2 rfl) ?_
        refine lv_iload X.1.1 X.1.2.1 dX9_strongest_33 (lv_at hl 0 rfl) ?_
        refine cut_j (A := ∀ v3 : Int, v3 = (if ¬ p1 = (max (max p0 p1) (max p2 p3)) then (if ¬ p2 = (max (max p0 p1) (max p2 p3)) then (3 : Int) else 2) else 1) → WI p l e 1 s m args below meth c G e0 α κ B Qm H locs 53 ls [.int (Int32.ofInt v3)]) (fun J4 => ?_) ?_
        · refine sa_icmp_ne (tgt := 42) X.1 hp1 (inR_max (inR_max hp0 hp1) (inR_max hp2 hp3)) dX9_strongest_35 (by decide) (fun hc => ?_) (fun hc => ?_)
          · skip
            refine lv_iload_n X.1.1 X.1.2.1 dX9_strongest_42 rfl (lv_at hl 3 rfl) ?_
            refine lv_iload X.1.1 X.1.2.1 dX9_strongest_43 (lv_at hl 0 rfl) ?_
            refine cut_j (A := ∀ v1 : Int, v1 = (if ¬ p2 = (max (max p0 p1) (max p2 p3)) then (3 : Int) else 2) → WI p l e 1 s m args below meth c G e0 α κ B Qm H locs 53 ls [.int (Int32.ofInt v1)]) (fun J2 => ?_) ?_
            · refine sa_icmp_ne (tgt := 52) X.1 hp2 (inR_max (inR_max hp0 hp1) (inR_max hp2 hp3)) dX9_strongest_45 (by decide) (fun hc => ?_) (fun hc => ?_)
              · skip
                refine sa_const X.1 dX9_strongest_52 ?_
                exact J2 (3) (if_pos (c := ¬ p2 = (max (max p0 p1) (max p2 p3))) hc).symm
              · skip
                refine sa_const X.1 dX9_strongest_48 ?_
                refine lv_goto (tgt := 53) X.1.1 X.1.2.1 dX9_strongest_49 (by decide) ?_
                exact J2 (2) (if_neg (c := ¬ p2 = (max (max p0 p1) (max p2 p3))) (fun z => z hc)).symm
            intro v1 hv1
            subst hv1
            exact J4 ((if ¬ p2 = (max (max p0 p1) (max p2 p3)) then (3 : Int) else 2)) (if_pos (c := ¬ p1 = (max (max p0 p1) (max p2 p3))) hc).symm
          · skip
            refine sa_const X.1 dX9_strongest_38 ?_
            refine lv_goto (tgt := 53) X.1.1 X.1.2.1 dX9_strongest_39 (by decide) ?_
            exact J4 (1) (if_neg (c := ¬ p1 = (max (max p0 p1) (max p2 p3))) (fun z => z hc)).symm
        intro v3 hv3
        subst hv3
        exact J7 ((if ¬ p1 = (max (max p0 p1) (max p2 p3)) then (if ¬ p2 = (max (max p0 p1) (max p2 p3)) then (3 : Int) else 2) else 1)) (if_pos (c := ¬ p0 = (max (max p0 p1) (max p2 p3))) hc).symm
      · skip
        refine sa_const X.1 dX9_strongest_28 ?_
        refine lv_goto (tgt := 53) X.1.1 X.1.2.1 dX9_strongest_29 (by decide) ?_
        exact J7 (0) (if_neg (c := ¬ p0 = (max (max p0 p1) (max p2 p3))) (fun z => z hc)).symm
    intro v6 hv6
    subst hv6
    refine lv_istore (lv' := [(5, .int (Int32.ofInt (if ¬ p0 = (max (max p0 p1) (max p2 p3)) then (if ¬ p1 = (max (max p0 p1) (max p2 p3)) then (if ¬ p2 = (max (max p0 p1) (max p2 p3)) then (3 : Int) else 2) else 1) else 0))), (4, .int (Int32.ofInt (max (max p0 p1) (max p2 p3)))), (0, .int (Int32.ofInt p0)), (1, .int (Int32.ofInt p1)), (2, .int (Int32.ofInt p2)), (3, .int (Int32.ofInt p3))]) X.1.1 X.1.2.1 dX9_strongest_53 hl (by decide) rfl (fun ls hl => ?_)
    refine sa_bipush X.1 dX9_strongest_55 (by decide) ?_
    refine lv_iload X.1.1 X.1.2.1 dX9_strongest_57 (lv_at hl 1 rfl) ?_
    have c8 := hw.1
    have hw := hw.2
    refine sa_imul X.1 dX9_strongest_59 ?_
    refine lv_iload X.1.1 X.1.2.1 dX9_strongest_60 (lv_at hl 0 rfl) ?_
    have c9 := hw.1
    have hw := hw.2
    refine sa_iadd X.1 dX9_strongest_62 ?_
    refine sa_const X.1 dX9_strongest_63 ?_
    have c10 := hw.1
    have hw := hw.2
    refine sa_iadd X.1 dX9_strongest_64 ?_
    exact sa_iret X.1 X.2.2.2.1 X.2.2.2.2 hR hS c10 hw dX9_strongest_65
  · have hw := hw.2 hc
    refine sa_const X.1 dX9_strongest_20 ?_
    exact sa_iret X.1 X.2.2.2.1 X.2.2.2.2 hR hS (inR_c (a := 0) rfl) hw dX9_strongest_21
theorem m_X9_strongest {l : Launch} {G : Gx} {e0 : Nat} {α : Ax} {κ : Nat → Int} {B : Nat} {p0 : Int} {p1 : Int} {p2 : Int} {p3 : Int} (hκ : kOK κ) (hp0 : inR p0) (hp1 : inR p1) (hp2 : inR p2) (hp3 : inR p3) {M : Mem} {Qm : Int → Mem → Prop} (hw : wp_X9_strongest p0 p1 p2 p3 M Qm) : CI l yX9_strongest (Cond.code yX9_strongest cX9_strongest 6 (some .int)) 1 G e0 α κ B [.int (Int32.ofInt p0), .int (Int32.ofInt p1), .int (Int32.ofInt p2), .int (Int32.ofInt p3)] M Qm :=
  CI.mk hκ (by decide +kernel) rfl (Nat.le_of_ble_eq_true rfl) (lv := [(0, .int (Int32.ofInt p0)), (1, .int (Int32.ofInt p1)), (2, .int (Int32.ofInt p2)), (3, .int (Int32.ofInt p3))]) rfl (fun p e s m args below meth c ls X hR hS hl => t_X9_strongest X hp0 hp1 hp2 hp3 hw _ _ hR hS ls hl)
theorem cs_X9_strongest {cc : ByteArray} {nL : Nat} {own : String} {ret : Option FieldType} {idx pc : Nat} {p0 : Int} {p1 : Int} {p2 : Int} {p3 : Int} (X : CX p m c cc nL s args own G B κ meth ret) (hp0 : inR p0) (hp1 : inR p1) (hp2 : inR p2) (hp3 : inR p3) {kc : Nat} {R : Room} {cells slots : Nat} (hRr : RmOK R kc) (hcel : cells ≤ R.cells ∧ slots ≤ R.slots) (hk : 1 + 1 ≤ kc) {M : Mem} {H : Heap} {locs : List Loc} (hR : Rp G e0 α κ B M H) (hS : va_S (fun q => B ≤ q) s.heap H locs) (k1 : Cond.methodLink own idx yX9_strongest ∈ gw) {ls : Array Slot} (hml : ls.size = nL) {rest : List Value} (hd : decode cc pc = .ok (.invokestatic idx, 3)) (hrest : (rest.map fun v => v.category).sum ≤ 8) {Q : State → Prop} {Qm : Int → Mem → Prop} (hw : wp_X9_strongest p0 p1 p2 p3 M Qm) (kk : ∀ (r : Int) (M1 : Mem) (H1 : Heap) (locs1 : List Loc), Qm r M1 → inR r → Rp G e0 α κ B M1 H1 → va_S (fun q => B ≤ q) s.heap H1 locs1 → W p l e R s m args below meth c H1 locs1 cells slots Q (F0 m (pc + 3) ls (.int (Int32.ofInt r) :: rest))) : W p l e R s m args below meth c H locs cells slots Q (F0 m pc ls (.int (Int32.ofInt p3) :: .int (Int32.ofInt p2) :: .int (Int32.ofInt p1) :: .int (Int32.ofInt p0) :: rest)) :=
  sa_callSI 1 (n := 4) (As := [.int (Int32.ofInt p0), .int (Int32.ofInt p1), .int (Int32.ofInt p2), .int (Int32.ofInt p3)]) (rest := rest) X.1 X.2.1 hR hS (m_X9_strongest X.2.2.1 hp0 hp1 hp2 hp3 hw) k1 kw_1432 kw_38 kw_1433 ⟨by decide +kernel, by decide +kernel, by decide +kernel⟩ (rm_ok hRr hk (by decide)) rfl rfl hrest hml hd hcel kk
def wp_X9_leftPart_52 (p0 : Int) (Qm : Int → Mem → Prop) (y1 : Int) (M : Mem) : Prop := Qm y1 M
def wp_X9_leftPart_26 (p0 : Int) (Qm : Int → Mem → Prop) : Nat → Int → Int → Int → Mem → Prop
  | 0 => fun _ _ _ _ => False
  | n + 1 => fun y1 y2 y3 M => ((9 ≤ y3 → wp_X9_leftPart_52 p0 Qm y1 M) ∧ (y3 < 9 → ((y2 < 10 → wp_X9_leftPart_52 p0 Qm y1 M) ∧ (10 ≤ y2 → (inR (y1 + 1)) ∧ (inR (y3 + 1)) ∧ wp_X9_leftPart_26 p0 Qm n (y1 + 1) (Int.tdiv y2 10) (y3 + 1) M))))
def wp_X9_leftPart (p0 : Int) (M : Mem) (Qm : Int → Mem → Prop) : Prop := (p0 < 0 → (inR (-p0)) ∧ True) ∧ (inR (if 0 ≤ p0 then p0 else (-p0))) ∧ (∃ n13 : Nat, wp_X9_leftPart_26 p0 Qm n13 (if 0 ≤ p0 then (1 : Int) else 2) (Int.tdiv (if 0 ≤ p0 then p0 else (-p0)) 100) 0 M)
set_option maxHeartbeats 4000000 in
set_option maxRecDepth 100000 in
theorem t_X9_leftPart_52 {p0 : Int} (X : CX p m c cX9_leftPart 4 s args RX9 G B κ meth (some .int)) (hp0 : inR p0) {Qm : Int → Mem → Prop} : ∀ y1 : Int, ∀ M : Mem, wp_X9_leftPart_52 p0 Qm y1 M → inR y1 → ∀ (H : Heap) (locs : List Loc), Rp G e0 α κ B M H → va_S (fun q => B ≤ q) s.heap H locs → ∀ (ls : Array Slot), lv_has ls 4 [(1, .int (Int32.ofInt y1))] → WI p l e 0 s m args below meth c G e0 α κ B Qm H locs 52 ls [] := by
  intro y1 M hw hy1 H locs hR hS ls hl
  have hw : Qm y1 M := hw
  refine lv_iload_n X.1.1 X.1.2.1 dX9_leftPart_52 rfl (lv_at hl 0 rfl) ?_
  exact sa_iret X.1 X.2.2.2.1 X.2.2.2.2 hR hS hy1 hw dX9_leftPart_53
set_option maxHeartbeats 4000000 in
set_option maxRecDepth 100000 in
theorem t_X9_leftPart_26 {p0 : Int} (X : CX p m c cX9_leftPart 4 s args RX9 G B κ meth (some .int)) (hp0 : inR p0) {Qm : Int → Mem → Prop} : ∀ n : Nat, ∀ y1 : Int, ∀ y2 : Int, ∀ y3 : Int, ∀ M : Mem, wp_X9_leftPart_26 p0 Qm n y1 y2 y3 M → inR y1 → inR y2 → inR y3 → ∀ (H : Heap) (locs : List Loc), Rp G e0 α κ B M H → va_S (fun q => B ≤ q) s.heap H locs → ∀ (ls : Array Slot), lv_has ls 4 [(1, .int (Int32.ofInt y1)), (2, .int (Int32.ofInt y2)), (3, .int (Int32.ofInt y3))] → WI p l e 0 s m args below meth c G e0 α κ B Qm H locs 26 ls [] := by
  intro n
  induction n with
  | zero =>
    intro y1 y2 y3 M hw hy1 hy2 hy3 H locs hR hS ls hl
    exact hw.elim
  | succ n ih =>
    intro y1 y2 y3 M hw hy1 hy2 hy3 H locs hR hS ls hl
    have hw : ((9 ≤ y3 → wp_X9_leftPart_52 p0 Qm y1 M) ∧ (y3 < 9 → ((y2 < 10 → wp_X9_leftPart_52 p0 Qm y1 M) ∧ (10 ≤ y2 → (inR (y1 + 1)) ∧ (inR (y3 + 1)) ∧ wp_X9_leftPart_26 p0 Qm n (y1 + 1) (Int.tdiv y2 10) (y3 + 1) M)))) := hw
    refine lv_iload_n X.1.1 X.1.2.1 dX9_leftPart_26 rfl (lv_at hl 2 rfl) ?_
    refine sa_bipush X.1 dX9_leftPart_27 (by decide) ?_
    refine sa_icmp_ge (tgt := 52) X.1 hy3 (inR_c (a := 9) rfl) dX9_leftPart_29 (by decide) (fun hc => ?_) (fun hc => ?_)
    · have hw := hw.1 hc
      exact t_X9_leftPart_52 X hp0 _ _ hw hy1 _ _ hR hS _ (lv_sub hl [0] rfl)
    · have hw := hw.2 hc
      refine lv_iload_n X.1.1 X.1.2.1 dX9_leftPart_32 rfl (lv_at hl 1 rfl) ?_
      refine sa_bipush X.1 dX9_leftPart_33 (by decide) ?_
      refine sa_icmp_lt (tgt := 52) X.1 hy2 (inR_c (a := 10) rfl) dX9_leftPart_35 (by decide) (fun hc => ?_) (fun hc => ?_)
      · have hw := hw.1 hc
        exact t_X9_leftPart_52 X hp0 _ _ hw hy1 _ _ hR hS _ (lv_sub hl [0] rfl)
      · have hw := hw.2 hc
        refine lv_iload_n X.1.1 X.1.2.1 dX9_leftPart_38 rfl (lv_at hl 1 rfl) ?_
        refine sa_bipush X.1 dX9_leftPart_39 (by decide) ?_
        have r10 := inR_tdiv hy2 (inR_c (a := 10) rfl) (by decide)
        refine sa_idiv X.1 hy2 (inR_c (a := 10) rfl) (Int.ne_of_gt (by decide)) dX9_leftPart_41 ?_
        refine lv_istore_n (lv' := [(2, .int (Int32.ofInt (Int.tdiv y2 10))), (1, .int (Int32.ofInt y1)), (3, .int (Int32.ofInt y3))]) X.1.1 X.1.2.1 dX9_leftPart_42 rfl hl (by decide) rfl (fun ls hl => ?_)
        have c11 := hw.1
        have hw := hw.2
        refine lv_iinc (v := Int32.ofInt (y1 + 1)) (lv' := [(1, .int (Int32.ofInt (y1 + 1))), (2, .int (Int32.ofInt (Int.tdiv y2 10))), (3, .int (Int32.ofInt y3))]) X.1.1 X.1.2.1 dX9_leftPart_43 hl (k := 1) rfl (Int32.ofInt_add _ _).symm (by decide) rfl (fun ls hl => ?_)
        have c12 := hw.1
        have hw := hw.2
        refine lv_iinc (v := Int32.ofInt (y3 + 1)) (lv' := [(3, .int (Int32.ofInt (y3 + 1))), (1, .int (Int32.ofInt (y1 + 1))), (2, .int (Int32.ofInt (Int.tdiv y2 10)))]) X.1.1 X.1.2.1 dX9_leftPart_46 hl (k := 2) rfl (Int32.ofInt_add _ _).symm (by decide) rfl (fun ls hl => ?_)
        refine lv_goto (tgt := 26) X.1.1 X.1.2.1 dX9_leftPart_49 (by decide) ?_
        exact ih _ _ _ _ hw c11 r10 c12 _ _ hR hS _ (lv_sub hl [1, 2, 0] rfl)
set_option maxHeartbeats 4000000 in
set_option maxRecDepth 100000 in
theorem t_X9_leftPart {p0 : Int} (X : CX p m c cX9_leftPart 4 s args RX9 G B κ meth (some .int)) (hp0 : inR p0) {M : Mem} {Qm : Int → Mem → Prop} (hw : wp_X9_leftPart p0 M Qm) (H : Heap) (locs : List Loc) (hR : Rp G e0 α κ B M H) (hS : va_S (fun q => B ≤ q) s.heap H locs) (ls : Array Slot) (hl : lv_has ls 4 [(0, .int (Int32.ofInt p0))]) : WI p l e 0 s m args below meth c G e0 α κ B Qm H locs 0 ls [] := by
  have hw : (p0 < 0 → (inR (-p0)) ∧ True) ∧ (inR (if 0 ≤ p0 then p0 else (-p0))) ∧ (∃ n13 : Nat, wp_X9_leftPart_26 p0 Qm n13 (if 0 ≤ p0 then (1 : Int) else 2) (Int.tdiv (if 0 ≤ p0 then p0 else (-p0)) 100) 0 M) := hw
  refine lv_iload_n X.1.1 X.1.2.1 dX9_leftPart_0 rfl (lv_at hl 0 rfl) ?_
  have r1 := inR_ite (c := 0 ≤ p0) (inR_c (a := 1) rfl) (inR_c (a := 2) rfl)
  refine cut_j (A := ∀ v2 : Int, v2 = (if 0 ≤ p0 then (1 : Int) else 2) → WI p l e 0 s m args below meth c G e0 α κ B Qm H locs 9 ls [.int (Int32.ofInt v2)]) (fun J3 => ?_) ?_
  · refine sa_if_ge (tgt := 8) X.1 hp0 dX9_leftPart_1 (by decide) (fun hc => ?_) (fun hc => ?_)
    · skip
      refine sa_const X.1 dX9_leftPart_8 ?_
      exact J3 (1) (if_pos (c := 0 ≤ p0) hc).symm
    · skip
      refine sa_const X.1 dX9_leftPart_4 ?_
      refine lv_goto (tgt := 9) X.1.1 X.1.2.1 dX9_leftPart_5 (by decide) ?_
      exact J3 (2) (if_neg (c := 0 ≤ p0) (Int.not_le.mpr hc)).symm
  intro v2 hv2
  subst hv2
  refine lv_istore_n (lv' := [(1, .int (Int32.ofInt (if 0 ≤ p0 then (1 : Int) else 2))), (0, .int (Int32.ofInt p0))]) X.1.1 X.1.2.1 dX9_leftPart_9 rfl hl (by decide) rfl (fun ls hl => ?_)
  refine lv_iload_n X.1.1 X.1.2.1 dX9_leftPart_10 rfl (lv_at hl 1 rfl) ?_
  have s5 := hw.1
  have hw := hw.2
  have c6 := hw.1
  have hw := hw.2
  refine cut_j (A := ∀ v7 : Int, v7 = (if 0 ≤ p0 then p0 else (-p0)) → WI p l e 0 s m args below meth c G e0 α κ B Qm H locs 20 ls [.int (Int32.ofInt v7)]) (fun J8 => ?_) ?_
  · refine sa_if_ge (tgt := 19) X.1 hp0 dX9_leftPart_11 (by decide) (fun hc => ?_) (fun hc => ?_)
    · skip
      refine lv_iload_n X.1.1 X.1.2.1 dX9_leftPart_19 rfl (lv_at hl 1 rfl) ?_
      exact J8 (p0) (if_pos (c := 0 ≤ p0) hc).symm
    · have hw := s5 hc
      refine lv_iload_n X.1.1 X.1.2.1 dX9_leftPart_14 rfl (lv_at hl 1 rfl) ?_
      have c4 := hw.1
      have hw := hw.2
      refine sa_ineg X.1 dX9_leftPart_15 ?_
      refine lv_goto (tgt := 20) X.1.1 X.1.2.1 dX9_leftPart_16 (by decide) ?_
      exact J8 ((-p0)) (if_neg (c := 0 ≤ p0) (Int.not_le.mpr hc)).symm
  intro v7 hv7
  subst hv7
  refine sa_bipush X.1 dX9_leftPart_20 (by decide) ?_
  have r9 := inR_tdiv c6 (inR_c (a := 100) rfl) (by decide)
  refine sa_idiv X.1 c6 (inR_c (a := 100) rfl) (Int.ne_of_gt (by decide)) dX9_leftPart_22 ?_
  refine lv_istore_n (lv' := [(2, .int (Int32.ofInt (Int.tdiv (if 0 ≤ p0 then p0 else (-p0)) 100))), (1, .int (Int32.ofInt (if 0 ≤ p0 then (1 : Int) else 2))), (0, .int (Int32.ofInt p0))]) X.1.1 X.1.2.1 dX9_leftPart_23 rfl hl (by decide) rfl (fun ls hl => ?_)
  refine sa_const X.1 dX9_leftPart_24 ?_
  refine lv_istore_n (lv' := [(3, .int (Int32.ofInt 0)), (2, .int (Int32.ofInt (Int.tdiv (if 0 ≤ p0 then p0 else (-p0)) 100))), (1, .int (Int32.ofInt (if 0 ≤ p0 then (1 : Int) else 2))), (0, .int (Int32.ofInt p0))]) X.1.1 X.1.2.1 dX9_leftPart_25 rfl hl (by decide) rfl (fun ls hl => ?_)
  obtain ⟨n13, hw⟩ := hw
  exact t_X9_leftPart_26 X hp0 n13 _ _ _ _ hw r1 r9 (inR_c (a := 0) rfl) _ _ hR hS _ (lv_sub hl [2, 1, 0] rfl)
theorem m_X9_leftPart {l : Launch} {G : Gx} {e0 : Nat} {α : Ax} {κ : Nat → Int} {B : Nat} {p0 : Int} (hκ : kOK κ) (hp0 : inR p0) {M : Mem} {Qm : Int → Mem → Prop} (hw : wp_X9_leftPart p0 M Qm) : CI l yX9_leftPart (Cond.code yX9_leftPart cX9_leftPart 4 (some .int)) 0 G e0 α κ B [.int (Int32.ofInt p0)] M Qm :=
  CI.mk hκ (by decide +kernel) rfl (Nat.le_of_ble_eq_true rfl) (lv := [(0, .int (Int32.ofInt p0))]) rfl (fun p e s m args below meth c ls X hR hS hl => t_X9_leftPart X hp0 hw _ _ hR hS ls hl)
theorem cs_X9_leftPart {cc : ByteArray} {nL : Nat} {own : String} {ret : Option FieldType} {idx pc : Nat} {p0 : Int} (X : CX p m c cc nL s args own G B κ meth ret) (hp0 : inR p0) {kc : Nat} {R : Room} {cells slots : Nat} (hRr : RmOK R kc) (hcel : cells ≤ R.cells ∧ slots ≤ R.slots) (hk : 0 + 1 ≤ kc) {M : Mem} {H : Heap} {locs : List Loc} (hR : Rp G e0 α κ B M H) (hS : va_S (fun q => B ≤ q) s.heap H locs) (k1 : Cond.methodLink own idx yX9_leftPart ∈ gw) {ls : Array Slot} (hml : ls.size = nL) {rest : List Value} (hd : decode cc pc = .ok (.invokestatic idx, 3)) (hrest : (rest.map fun v => v.category).sum ≤ 8) {Q : State → Prop} {Qm : Int → Mem → Prop} (hw : wp_X9_leftPart p0 M Qm) (kk : ∀ (r : Int) (M1 : Mem) (H1 : Heap) (locs1 : List Loc), Qm r M1 → inR r → Rp G e0 α κ B M1 H1 → va_S (fun q => B ≤ q) s.heap H1 locs1 → W p l e R s m args below meth c H1 locs1 cells slots Q (F0 m (pc + 3) ls (.int (Int32.ofInt r) :: rest))) : W p l e R s m args below meth c H locs cells slots Q (F0 m pc ls (.int (Int32.ofInt p0) :: rest)) :=
  sa_callSI 0 (n := 1) (As := [.int (Int32.ofInt p0)]) (rest := rest) X.1 X.2.1 hR hS (m_X9_leftPart X.2.2.1 hp0 hw) k1 kw_417 kw_38 kw_418 ⟨by decide +kernel, by decide +kernel, by decide +kernel⟩ (rm_ok hRr hk (by decide)) rfl rfl hrest hml hd hcel kk
theorem csN_X9_leftPart {cc : ByteArray} {nL : Nat} {own : String} {ret : Option FieldType} {idx pc : Nat} {p0 : Int} (X : CX p m c cc nL s args own G B κ meth ret) (hp0 : inR p0) {kc : Nat} {R : Room} {cells slots : Nat} (hRr : RmOK R kc) (hcel : cells ≤ R.cells ∧ slots ≤ R.slots) (hk : 0 + 1 ≤ kc) {M : Mem} {H : Heap} {locs : List Loc} (hR : Rp G e0 α κ B M H) (hS : va_S (fun q => B ≤ q) s.heap H locs) (k1 : Cond.methodLinkNest own idx yX9_leftPart "TablePages" ∈ nw) {ls : Array Slot} (hml : ls.size = nL) {rest : List Value} (hd : decode cc pc = .ok (.invokestatic idx, 3)) (hrest : (rest.map fun v => v.category).sum ≤ 8) {Q : State → Prop} {Qm : Int → Mem → Prop} (hw : wp_X9_leftPart p0 M Qm) (kk : ∀ (r : Int) (M1 : Mem) (H1 : Heap) (locs1 : List Loc), Qm r M1 → inR r → Rp G e0 α κ B M1 H1 → va_S (fun q => B ≤ q) s.heap H1 locs1 → W p l e R s m args below meth c H1 locs1 cells slots Q (F0 m (pc + 3) ls (.int (Int32.ofInt r) :: rest))) : W p l e R s m args below meth c H locs cells slots Q (F0 m pc ls (.int (Int32.ofInt p0) :: rest)) :=
  sa_callSNI 0 (n := 1) (As := [.int (Int32.ofInt p0)]) (rest := rest) X.1 X.2.1 hR hS (m_X9_leftPart X.2.2.1 hp0 hw) k1 kw_417 kw_38 kw_418 ⟨by decide +kernel, by decide +kernel, by decide +kernel⟩ (rm_ok hRr hk (by decide)) rfl rfl hrest hml hd hcel kk
def wp_X0_addWord_39 (u0 : Int) (p1 : Int) (p2 : Int) (Qm : Mem → Prop) (M : Mem) : Prop := Qm M
def wp_X0_addWord (u0 : Int) (p1 : Int) (p2 : Int) (M : Mem) (Qm : Mem → Prop) : Prop := ((12 ≤ (M 1 u0 7) → wp_X0_addWord_39 u0 p1 p2 Qm M) ∧ ((M 1 u0 7) < 12 → (0 ≤ (M 1 u0 7) ∧ (M 1 u0 7) < 12) ∧ ∀ M4 : Mem, M4 = up M 25 u0 (M 1 u0 7) p1 → (0 ≤ (M4 1 u0 7) ∧ (M4 1 u0 7) < 12) ∧ ∀ M8 : Mem, M8 = up M4 26 u0 (M4 1 u0 7) p2 → (inR ((M8 1 u0 7) + 1)) ∧ ∀ M12 : Mem, M12 = up M8 1 u0 7 ((M8 1 u0 7) + 1) → wp_X0_addWord_39 u0 p1 p2 Qm M12))
set_option maxHeartbeats 4000000 in
set_option maxRecDepth 100000 in
theorem t_X0_addWord_39 {u0 : Int} {p1 : Int} {p2 : Int} (X : CX p m c cX0_addWord 3 s args RX0 G B κ meth none) (hu0 : okk κ 1 u0) (hp1 : inR p1) (hp2 : inR p2) {Qm : Mem → Prop} : ∀ M : Mem, wp_X0_addWord_39 u0 p1 p2 Qm M → ∀ (H : Heap) (locs : List Loc), Rp G e0 α κ B M H → va_S (fun q => B ≤ q) s.heap H locs → ∀ (ls : Array Slot), lv_has ls 3 [] → WV p l e 0 s m args below meth c G e0 α κ B Qm H locs 39 ls [] := by
  intro M hw H locs hR hS ls hl
  have hw : Qm M := hw
  exact sa_vret X.1 X.2.2.2.1 X.2.2.2.2 hR hS hw dX0_addWord_39
set_option maxHeartbeats 4000000 in
set_option maxRecDepth 100000 in
theorem t_X0_addWord {u0 : Int} {p1 : Int} {p2 : Int} (X : CX p m c cX0_addWord 3 s args RX0 G B κ meth none) (hu0 : okk κ 1 u0) (hp1 : inR p1) (hp2 : inR p2) {M : Mem} {Qm : Mem → Prop} (hw : wp_X0_addWord u0 p1 p2 M Qm) (H : Heap) (locs : List Loc) (hR : Rp G e0 α κ B M H) (hS : va_S (fun q => B ≤ q) s.heap H locs) (ls : Array Slot) (hl : lv_has ls 3 [(0, .ref (α 1 u0)), (1, .int (Int32.ofInt p1)), (2, .int (Int32.ofInt p2))]) : WV p l e 0 s m args below meth c G e0 α κ B Qm H locs 0 ls [] := by
  have hw : ((12 ≤ (M 1 u0 7) → wp_X0_addWord_39 u0 p1 p2 Qm M) ∧ ((M 1 u0 7) < 12 → (0 ≤ (M 1 u0 7) ∧ (M 1 u0 7) < 12) ∧ ∀ M4 : Mem, M4 = up M 25 u0 (M 1 u0 7) p1 → (0 ≤ (M4 1 u0 7) ∧ (M4 1 u0 7) < 12) ∧ ∀ M8 : Mem, M8 = up M4 26 u0 (M4 1 u0 7) p2 → (inR ((M8 1 u0 7) + 1)) ∧ ∀ M12 : Mem, M12 = up M8 1 u0 7 ((M8 1 u0 7) + 1) → wp_X0_addWord_39 u0 p1 p2 Qm M12)) := hw
  refine lv_aload_n X.1.1 X.1.2.1 dX0_addWord_0 rfl (lv_at hl 0 rfl) ?_
  refine gt_1_7 X hR hu0 kw_1003 dX0_addWord_1 ?_
  have r1 := hR.r 1 u0 7
  refine sa_bipush X.1 dX0_addWord_4 (by decide) ?_
  refine sa_icmp_ge (tgt := 39) X.1 r1 (inR_c (a := 12) rfl) dX0_addWord_6 (by decide) (fun hc => ?_) (fun hc => ?_)
  · have hw := hw.1 hc
    exact t_X0_addWord_39 X hu0 hp1 hp2 _ hw _ _ hR hS _ (lv_sub hl [] rfl)
  · have hw := hw.2 hc
    refine lv_aload_n X.1.1 X.1.2.1 dX0_addWord_9 rfl (lv_at hl 0 rfl) ?_
    refine gt_1_5 X hR hu0 kw_1001 dX0_addWord_10 ?_
    refine lv_aload_n X.1.1 X.1.2.1 dX0_addWord_13 rfl (lv_at hl 0 rfl) ?_
    refine gt_1_7 X hR hu0 kw_1003 dX0_addWord_14 ?_
    have r2 := hR.r 1 u0 7
    refine lv_iload_n X.1.1 X.1.2.1 dX0_addWord_17 rfl (lv_at hl 1 rfl) ?_
    have c3 := hw.1
    have hw := hw.2
    refine wa_25 X hR hS (ok2 X.2.2.1 rfl hu0) c3 hp1 dX0_addWord_18 (fun H locs hR hS => ?_)
    obtain ⟨M4, e5⟩ : ∃ z : Mem, z = up M 25 u0 (M 1 u0 7) p1 := ⟨_, rfl⟩
    rw [← e5] at hR
    have hw := hw M4 e5
    refine lv_aload_n X.1.1 X.1.2.1 dX0_addWord_19 rfl (lv_at hl 0 rfl) ?_
    refine gt_1_6 X hR hu0 kw_1002 dX0_addWord_20 ?_
    refine lv_aload_n X.1.1 X.1.2.1 dX0_addWord_23 rfl (lv_at hl 0 rfl) ?_
    refine gt_1_7 X hR hu0 kw_1003 dX0_addWord_24 ?_
    have r6 := hR.r 1 u0 7
    refine lv_iload_n X.1.1 X.1.2.1 dX0_addWord_27 rfl (lv_at hl 2 rfl) ?_
    have c7 := hw.1
    have hw := hw.2
    refine wa_26 X hR hS (ok2 X.2.2.1 rfl hu0) c7 hp2 dX0_addWord_28 (fun H locs hR hS => ?_)
    obtain ⟨M8, e9⟩ : ∃ z : Mem, z = up M4 26 u0 (M4 1 u0 7) p2 := ⟨_, rfl⟩
    rw [← e9] at hR
    have hw := hw M8 e9
    refine lv_aload_n X.1.1 X.1.2.1 dX0_addWord_29 rfl (lv_at hl 0 rfl) ?_
    refine lv_dup X.1.1 X.1.2.1 dX0_addWord_30 rfl ?_
    refine gt_1_7 X hR hu0 kw_1003 dX0_addWord_31 ?_
    have r10 := hR.r 1 u0 7
    refine sa_const X.1 dX0_addWord_34 ?_
    have c11 := hw.1
    have hw := hw.2
    refine sa_iadd X.1 dX0_addWord_35 ?_
    refine pt_1_7 X hR hS hu0 c11 kw_1003 dX0_addWord_36 (fun H locs hR hS => ?_)
    obtain ⟨M12, e13⟩ : ∃ z : Mem, z = up M8 1 u0 7 ((M8 1 u0 7) + 1) := ⟨_, rfl⟩
    rw [← e13] at hR
    have hw := hw M12 e13
    exact t_X0_addWord_39 X hu0 hp1 hp2 _ hw _ _ hR hS _ (lv_sub hl [] rfl)
theorem m_X0_addWord {l : Launch} {G : Gx} {e0 : Nat} {α : Ax} {κ : Nat → Int} {B : Nat} {u0 : Int} {p1 : Int} {p2 : Int} (hκ : kOK κ) (hu0 : okk κ 1 u0) (hp1 : inR p1) (hp2 : inR p2) {M : Mem} {Qm : Mem → Prop} (hw : wp_X0_addWord u0 p1 p2 M Qm) : CV l yX0_addWord (Cond.code yX0_addWord cX0_addWord 3 none) 0 G e0 α κ B [.ref (α 1 u0), .int (Int32.ofInt p1), .int (Int32.ofInt p2)] M Qm :=
  CV.mk hκ (by decide +kernel) rfl (Nat.le_of_ble_eq_true rfl) (lv := [(0, .ref (α 1 u0)), (1, .int (Int32.ofInt p1)), (2, .int (Int32.ofInt p2))]) rfl (fun p e s m args below meth c ls X hR hS hl => t_X0_addWord X hu0 hp1 hp2 hw _ _ hR hS ls hl)
theorem cs_X0_addWord {cc : ByteArray} {nL : Nat} {own : String} {ret : Option FieldType} {idx pc : Nat} {u0 : Int} {p1 : Int} {p2 : Int} (X : CX p m c cc nL s args own G B κ meth ret) (hu0 : okk κ 1 u0) (hp1 : inR p1) (hp2 : inR p2) {kc : Nat} {R : Room} {cells slots : Nat} (hRr : RmOK R kc) (hcel : cells ≤ R.cells ∧ slots ≤ R.slots) (hk : 0 + 1 ≤ kc) {M : Mem} {H : Heap} {locs : List Loc} (hR : Rp G e0 α κ B M H) (hS : va_S (fun q => B ≤ q) s.heap H locs) (k1 : Cond.methodLink own idx yX0_addWord ∈ gw) {ls : Array Slot} (hml : ls.size = nL) {rest : List Value} (hd : decode cc pc = .ok (.invokevirtual idx, 3)) (hrest : (rest.map fun v => v.category).sum ≤ 8) {Q : State → Prop} {Qm : Mem → Prop} (hw : wp_X0_addWord u0 p1 p2 M Qm) (kk : ∀ (M1 : Mem) (H1 : Heap) (locs1 : List Loc), Qm M1 → Rp G e0 α κ B M1 H1 → va_S (fun q => B ≤ q) s.heap H1 locs1 → W p l e R s m args below meth c H1 locs1 cells slots Q (F0 m (pc + 3) ls (rest))) : W p l e R s m args below meth c H locs cells slots Q (F0 m pc ls (.int (Int32.ofInt p2) :: .int (Int32.ofInt p1) :: .ref (α 1 u0) :: rest)) :=
  sa_callVV 0 (n := 2) (As := [.int (Int32.ofInt p1), .int (Int32.ofInt p2)]) (rest := rest) X.1 X.2.1 hR hS (m_X0_addWord X.2.2.1 hu0 hp1 hp2 hw) k1 kw_1089 kw_1090 kw_52 kw_1091 ⟨rfl, by decide +kernel, by decide +kernel, by decide +kernel⟩ (rm_ok hRr hk (by decide)) (rc_1 X hR hu0) rfl rfl hrest hml hd hcel kk
def wp_X0_isOut (u0 : Int) (M : Mem) (Qm : Int → Mem → Prop) : Prop := (bit (if ¬ (M 1 u0 12) = 0 then (0 : Int) else 1)) ∧ Qm (if ¬ (M 1 u0 12) = 0 then (0 : Int) else 1) M
set_option maxHeartbeats 4000000 in
set_option maxRecDepth 100000 in
theorem t_X0_isOut {u0 : Int} (X : CX p m c cX0_isOut 1 s args RX0 G B κ meth (some .boolean)) (hu0 : okk κ 1 u0) {M : Mem} {Qm : Int → Mem → Prop} (hw : wp_X0_isOut u0 M Qm) (H : Heap) (locs : List Loc) (hR : Rp G e0 α κ B M H) (hS : va_S (fun q => B ≤ q) s.heap H locs) (ls : Array Slot) (hl : lv_has ls 1 [(0, .ref (α 1 u0))]) : WI p l e 0 s m args below meth c G e0 α κ B Qm H locs 0 ls [] := by
  have hw : (bit (if ¬ (M 1 u0 12) = 0 then (0 : Int) else 1)) ∧ Qm (if ¬ (M 1 u0 12) = 0 then (0 : Int) else 1) M := hw
  refine lv_aload_n X.1.1 X.1.2.1 dX0_isOut_0 rfl (lv_at hl 0 rfl) ?_
  refine gt_1_12 X hR hu0 kw_1016 dX0_isOut_1 ?_
  have r1 := hR.r 1 u0 12
  have r2 := inR_ite (c := ¬ (M 1 u0 12) = 0) (inR_c (a := 0) rfl) (inR_c (a := 1) rfl)
  refine cut_j (A := ∀ v3 : Int, v3 = (if ¬ (M 1 u0 12) = 0 then (0 : Int) else 1) → WI p l e 0 s m args below meth c G e0 α κ B Qm H locs 12 ls [.int (Int32.ofInt v3)]) (fun J4 => ?_) ?_
  · refine sa_if_ne (tgt := 11) X.1 r1 dX0_isOut_4 (by decide) (fun hc => ?_) (fun hc => ?_)
    · skip
      refine sa_const X.1 dX0_isOut_11 ?_
      exact J4 (0) (if_pos (c := ¬ (M 1 u0 12) = 0) hc).symm
    · skip
      refine sa_const X.1 dX0_isOut_7 ?_
      refine lv_goto (tgt := 12) X.1.1 X.1.2.1 dX0_isOut_8 (by decide) ?_
      exact J4 (1) (if_neg (c := ¬ (M 1 u0 12) = 0) (fun z => z hc)).symm
  intro v3 hv3
  subst hv3
  have c5 := hw.1
  have hw := hw.2
  exact sa_zret X.1 X.2.2.2.1 X.2.2.2.2 hR hS c5 hw dX0_isOut_12
theorem m_X0_isOut {l : Launch} {G : Gx} {e0 : Nat} {α : Ax} {κ : Nat → Int} {B : Nat} {u0 : Int} (hκ : kOK κ) (hu0 : okk κ 1 u0) {M : Mem} {Qm : Int → Mem → Prop} (hw : wp_X0_isOut u0 M Qm) : CI l yX0_isOut (Cond.code yX0_isOut cX0_isOut 1 (some .boolean)) 0 G e0 α κ B [.ref (α 1 u0)] M Qm :=
  CI.mk hκ (by decide +kernel) rfl (Nat.le_of_ble_eq_true rfl) (lv := [(0, .ref (α 1 u0))]) rfl (fun p e s m args below meth c ls X hR hS hl => t_X0_isOut X hu0 hw _ _ hR hS ls hl)
theorem cs_X0_isOut {cc : ByteArray} {nL : Nat} {own : String} {ret : Option FieldType} {idx pc : Nat} {u0 : Int} (X : CX p m c cc nL s args own G B κ meth ret) (hu0 : okk κ 1 u0) {kc : Nat} {R : Room} {cells slots : Nat} (hRr : RmOK R kc) (hcel : cells ≤ R.cells ∧ slots ≤ R.slots) (hk : 0 + 1 ≤ kc) {M : Mem} {H : Heap} {locs : List Loc} (hR : Rp G e0 α κ B M H) (hS : va_S (fun q => B ≤ q) s.heap H locs) (k1 : Cond.methodLink own idx yX0_isOut ∈ gw) {ls : Array Slot} (hml : ls.size = nL) {rest : List Value} (hd : decode cc pc = .ok (.invokevirtual idx, 3)) (hrest : (rest.map fun v => v.category).sum ≤ 8) {Q : State → Prop} {Qm : Int → Mem → Prop} (hw : wp_X0_isOut u0 M Qm) (kk : ∀ (r : Int) (M1 : Mem) (H1 : Heap) (locs1 : List Loc), Qm r M1 → inR r → Rp G e0 α κ B M1 H1 → va_S (fun q => B ≤ q) s.heap H1 locs1 → W p l e R s m args below meth c H1 locs1 cells slots Q (F0 m (pc + 3) ls (.int (Int32.ofInt r) :: rest))) : W p l e R s m args below meth c H locs cells slots Q (F0 m pc ls (.ref (α 1 u0) :: rest)) :=
  sa_callVI 0 (n := 0) (As := []) (rest := rest) X.1 X.2.1 hR hS (m_X0_isOut X.2.2.1 hu0 hw) k1 kw_413 kw_414 kw_52 kw_415 ⟨rfl, by decide +kernel, by decide +kernel, by decide +kernel⟩ (rm_ok hRr hk (by decide)) (rc_1 X hR hu0) rfl rfl hrest hml hd hcel kk
def wp_X0_showsFigure_18 (u0 : Int) (Qm : Int → Mem → Prop) (M : Mem) : Prop := Qm 0 M
def wp_X0_showsFigure (u0 : Int) (M : Mem) (Qm : Int → Mem → Prop) : Prop := (((M 1 u0 8) = 0 → wp_X0_showsFigure_18 u0 Qm M) ∧ (¬ (M 1 u0 8) = 0 → wp_X0_isOut u0 M fun (x3 : Int) (M2 : Mem) => (bit (if ¬ x3 = 0 then (0 : Int) else 1)) ∧ Qm (if ¬ x3 = 0 then (0 : Int) else 1) M2))
set_option maxHeartbeats 4000000 in
set_option maxRecDepth 100000 in
theorem t_X0_showsFigure_18 {u0 : Int} (X : CX p m c cX0_showsFigure 1 s args RX0 G B κ meth (some .boolean)) (hu0 : okk κ 1 u0) {Qm : Int → Mem → Prop} : ∀ M : Mem, wp_X0_showsFigure_18 u0 Qm M → ∀ (H : Heap) (locs : List Loc), Rp G e0 α κ B M H → va_S (fun q => B ≤ q) s.heap H locs → ∀ (ls : Array Slot), lv_has ls 1 [] → WI p l e 1 s m args below meth c G e0 α κ B Qm H locs 18 ls [] := by
  intro M hw H locs hR hS ls hl
  have hw : Qm 0 M := hw
  refine sa_const X.1 dX0_showsFigure_18 ?_
  exact sa_zret X.1 X.2.2.2.1 X.2.2.2.2 hR hS (Or.inl rfl) hw dX0_showsFigure_19
set_option maxHeartbeats 4000000 in
set_option maxRecDepth 100000 in
theorem t_X0_showsFigure {u0 : Int} (X : CX p m c cX0_showsFigure 1 s args RX0 G B κ meth (some .boolean)) (hu0 : okk κ 1 u0) {M : Mem} {Qm : Int → Mem → Prop} (hw : wp_X0_showsFigure u0 M Qm) (H : Heap) (locs : List Loc) (hR : Rp G e0 α κ B M H) (hS : va_S (fun q => B ≤ q) s.heap H locs) (ls : Array Slot) (hl : lv_has ls 1 [(0, .ref (α 1 u0))]) : WI p l e 1 s m args below meth c G e0 α κ B Qm H locs 0 ls [] := by
  have hw : (((M 1 u0 8) = 0 → wp_X0_showsFigure_18 u0 Qm M) ∧ (¬ (M 1 u0 8) = 0 → wp_X0_isOut u0 M fun (x3 : Int) (M2 : Mem) => (bit (if ¬ x3 = 0 then (0 : Int) else 1)) ∧ Qm (if ¬ x3 = 0 then (0 : Int) else 1) M2)) := hw
  refine lv_aload_n X.1.1 X.1.2.1 dX0_showsFigure_0 rfl (lv_at hl 0 rfl) ?_
  refine gt_1_8 X hR hu0 kw_1005 dX0_showsFigure_1 ?_
  have r1 := hR.r 1 u0 8
  refine sa_if_eq (tgt := 18) X.1 r1 dX0_showsFigure_4 (by decide) (fun hc => ?_) (fun hc => ?_)
  · have hw := hw.1 hc
    exact t_X0_showsFigure_18 X hu0 _ hw _ _ hR hS _ (lv_sub hl [] rfl)
  · have hw := hw.2 hc
    refine lv_aload_n X.1.1 X.1.2.1 dX0_showsFigure_7 rfl (lv_at hl 0 rfl) ?_
    refine cs_X0_isOut X hu0 (kc := 1) rmL_ok rm_c (by decide) hR hS kw_412 hl.1 dX0_showsFigure_8 (Nat.le_of_ble_eq_true rfl) hw (fun x3 M2 H locs hw r4 hR hS => ?_)
    have r5 := inR_ite (c := ¬ x3 = 0) (inR_c (a := 0) rfl) (inR_c (a := 1) rfl)
    refine cut_j (A := ∀ v6 : Int, v6 = (if ¬ x3 = 0 then (0 : Int) else 1) → WI p l e 1 s m args below meth c G e0 α κ B Qm H locs 19 ls [.int (Int32.ofInt v6)]) (fun J7 => ?_) ?_
    · refine sa_if_ne (tgt := 18) X.1 r4 dX0_showsFigure_11 (by decide) (fun hc => ?_) (fun hc => ?_)
      · skip
        refine sa_const X.1 dX0_showsFigure_18 ?_
        exact J7 (0) (if_pos (c := ¬ x3 = 0) hc).symm
      · skip
        refine sa_const X.1 dX0_showsFigure_14 ?_
        refine lv_goto (tgt := 19) X.1.1 X.1.2.1 dX0_showsFigure_15 (by decide) ?_
        exact J7 (1) (if_neg (c := ¬ x3 = 0) (fun z => z hc)).symm
    intro v6 hv6
    subst hv6
    have c8 := hw.1
    have hw := hw.2
    exact sa_zret X.1 X.2.2.2.1 X.2.2.2.2 hR hS c8 hw dX0_showsFigure_19
theorem m_X0_showsFigure {l : Launch} {G : Gx} {e0 : Nat} {α : Ax} {κ : Nat → Int} {B : Nat} {u0 : Int} (hκ : kOK κ) (hu0 : okk κ 1 u0) {M : Mem} {Qm : Int → Mem → Prop} (hw : wp_X0_showsFigure u0 M Qm) : CI l yX0_showsFigure (Cond.code yX0_showsFigure cX0_showsFigure 1 (some .boolean)) 1 G e0 α κ B [.ref (α 1 u0)] M Qm :=
  CI.mk hκ (by decide +kernel) rfl (Nat.le_of_ble_eq_true rfl) (lv := [(0, .ref (α 1 u0))]) rfl (fun p e s m args below meth c ls X hR hS hl => t_X0_showsFigure X hu0 hw _ _ hR hS ls hl)
theorem cs_X0_showsFigure {cc : ByteArray} {nL : Nat} {own : String} {ret : Option FieldType} {idx pc : Nat} {u0 : Int} (X : CX p m c cc nL s args own G B κ meth ret) (hu0 : okk κ 1 u0) {kc : Nat} {R : Room} {cells slots : Nat} (hRr : RmOK R kc) (hcel : cells ≤ R.cells ∧ slots ≤ R.slots) (hk : 1 + 1 ≤ kc) {M : Mem} {H : Heap} {locs : List Loc} (hR : Rp G e0 α κ B M H) (hS : va_S (fun q => B ≤ q) s.heap H locs) (k1 : Cond.methodLink own idx yX0_showsFigure ∈ gw) {ls : Array Slot} (hml : ls.size = nL) {rest : List Value} (hd : decode cc pc = .ok (.invokevirtual idx, 3)) (hrest : (rest.map fun v => v.category).sum ≤ 8) {Q : State → Prop} {Qm : Int → Mem → Prop} (hw : wp_X0_showsFigure u0 M Qm) (kk : ∀ (r : Int) (M1 : Mem) (H1 : Heap) (locs1 : List Loc), Qm r M1 → inR r → Rp G e0 α κ B M1 H1 → va_S (fun q => B ≤ q) s.heap H1 locs1 → W p l e R s m args below meth c H1 locs1 cells slots Q (F0 m (pc + 3) ls (.int (Int32.ofInt r) :: rest))) : W p l e R s m args below meth c H locs cells slots Q (F0 m pc ls (.ref (α 1 u0) :: rest)) :=
  sa_callVI 1 (n := 0) (As := []) (rest := rest) X.1 X.2.1 hR hS (m_X0_showsFigure X.2.2.1 hu0 hw) k1 kw_409 kw_410 kw_52 kw_411 ⟨rfl, by decide +kernel, by decide +kernel, by decide +kernel⟩ (rm_ok hRr hk (by decide)) (rc_1 X hR hu0) rfl rfl hrest hml hd hcel kk
def wp_X0_rightPart (u0 : Int) (M : Mem) (Qm : Int → Mem → Prop) : Prop := (¬ (M 1 u0 10) = 0 → (inR ((M 1 u0 10) + 1)) ∧ True) ∧ (inR (if ¬ (M 1 u0 10) = 0 then ((M 1 u0 10) + 1) else 0)) ∧ (inR ((if ¬ (M 1 u0 10) = 0 then ((M 1 u0 10) + 1) else 0) + (if (M 1 u0 11) ≤ 0 then (0 : Int) else 1))) ∧ Qm ((if ¬ (M 1 u0 10) = 0 then ((M 1 u0 10) + 1) else 0) + (if (M 1 u0 11) ≤ 0 then (0 : Int) else 1)) M
set_option maxHeartbeats 4000000 in
set_option maxRecDepth 100000 in
theorem t_X0_rightPart {u0 : Int} (X : CX p m c cX0_rightPart 1 s args RX0 G B κ meth (some .int)) (hu0 : okk κ 1 u0) {M : Mem} {Qm : Int → Mem → Prop} (hw : wp_X0_rightPart u0 M Qm) (H : Heap) (locs : List Loc) (hR : Rp G e0 α κ B M H) (hS : va_S (fun q => B ≤ q) s.heap H locs) (ls : Array Slot) (hl : lv_has ls 1 [(0, .ref (α 1 u0))]) : WI p l e 0 s m args below meth c G e0 α κ B Qm H locs 0 ls [] := by
  have hw : (¬ (M 1 u0 10) = 0 → (inR ((M 1 u0 10) + 1)) ∧ True) ∧ (inR (if ¬ (M 1 u0 10) = 0 then ((M 1 u0 10) + 1) else 0)) ∧ (inR ((if ¬ (M 1 u0 10) = 0 then ((M 1 u0 10) + 1) else 0) + (if (M 1 u0 11) ≤ 0 then (0 : Int) else 1))) ∧ Qm ((if ¬ (M 1 u0 10) = 0 then ((M 1 u0 10) + 1) else 0) + (if (M 1 u0 11) ≤ 0 then (0 : Int) else 1)) M := hw
  refine lv_aload_n X.1.1 X.1.2.1 dX0_rightPart_0 rfl (lv_at hl 0 rfl) ?_
  refine gt_1_10 X hR hu0 kw_1011 dX0_rightPart_1 ?_
  have r1 := hR.r 1 u0 10
  have s3 := hw.1
  have hw := hw.2
  have c4 := hw.1
  have hw := hw.2
  refine cut_j (A := ∀ v5 : Int, v5 = (if ¬ (M 1 u0 10) = 0 then ((M 1 u0 10) + 1) else 0) → WI p l e 0 s m args below meth c G e0 α κ B Qm H locs 17 ls [.int (Int32.ofInt v5)]) (fun J6 => ?_) ?_
  · refine sa_if_ne (tgt := 11) X.1 r1 dX0_rightPart_4 (by decide) (fun hc => ?_) (fun hc => ?_)
    · have hw := s3 hc
      refine lv_aload_n X.1.1 X.1.2.1 dX0_rightPart_11 rfl (lv_at hl 0 rfl) ?_
      refine gt_1_10 X hR hu0 kw_1011 dX0_rightPart_12 ?_
      refine sa_const X.1 dX0_rightPart_15 ?_
      have c2 := hw.1
      have hw := hw.2
      refine sa_iadd X.1 dX0_rightPart_16 ?_
      exact J6 (((M 1 u0 10) + 1)) (if_pos (c := ¬ (M 1 u0 10) = 0) hc).symm
    · skip
      refine sa_const X.1 dX0_rightPart_7 ?_
      refine lv_goto (tgt := 17) X.1.1 X.1.2.1 dX0_rightPart_8 (by decide) ?_
      exact J6 (0) (if_neg (c := ¬ (M 1 u0 10) = 0) (fun z => z hc)).symm
  intro v5 hv5
  subst hv5
  refine lv_aload_n X.1.1 X.1.2.1 dX0_rightPart_17 rfl (lv_at hl 0 rfl) ?_
  refine gt_1_11 X hR hu0 kw_1014 dX0_rightPart_18 ?_
  have r7 := hR.r 1 u0 11
  have r8 := inR_ite (c := (M 1 u0 11) ≤ 0) (inR_c (a := 0) rfl) (inR_c (a := 1) rfl)
  refine cut_j (A := ∀ v9 : Int, v9 = (if (M 1 u0 11) ≤ 0 then (0 : Int) else 1) → WI p l e 0 s m args below meth c G e0 α κ B Qm H locs 29 ls [.int (Int32.ofInt v9), .int (Int32.ofInt (if ¬ (M 1 u0 10) = 0 then ((M 1 u0 10) + 1) else 0))]) (fun J10 => ?_) ?_
  · refine sa_if_le (tgt := 28) X.1 r7 dX0_rightPart_21 (by decide) (fun hc => ?_) (fun hc => ?_)
    · skip
      refine sa_const X.1 dX0_rightPart_28 ?_
      exact J10 (0) (if_pos (c := (M 1 u0 11) ≤ 0) hc).symm
    · skip
      refine sa_const X.1 dX0_rightPart_24 ?_
      refine lv_goto (tgt := 29) X.1.1 X.1.2.1 dX0_rightPart_25 (by decide) ?_
      exact J10 (1) (if_neg (c := (M 1 u0 11) ≤ 0) (Int.not_le.mpr hc)).symm
  intro v9 hv9
  subst hv9
  have c11 := hw.1
  have hw := hw.2
  refine sa_iadd X.1 dX0_rightPart_29 ?_
  exact sa_iret X.1 X.2.2.2.1 X.2.2.2.2 hR hS c11 hw dX0_rightPart_30
theorem m_X0_rightPart {l : Launch} {G : Gx} {e0 : Nat} {α : Ax} {κ : Nat → Int} {B : Nat} {u0 : Int} (hκ : kOK κ) (hu0 : okk κ 1 u0) {M : Mem} {Qm : Int → Mem → Prop} (hw : wp_X0_rightPart u0 M Qm) : CI l yX0_rightPart (Cond.code yX0_rightPart cX0_rightPart 1 (some .int)) 0 G e0 α κ B [.ref (α 1 u0)] M Qm :=
  CI.mk hκ (by decide +kernel) rfl (Nat.le_of_ble_eq_true rfl) (lv := [(0, .ref (α 1 u0))]) rfl (fun p e s m args below meth c ls X hR hS hl => t_X0_rightPart X hu0 hw _ _ hR hS ls hl)
theorem cs_X0_rightPart {cc : ByteArray} {nL : Nat} {own : String} {ret : Option FieldType} {idx pc : Nat} {u0 : Int} (X : CX p m c cc nL s args own G B κ meth ret) (hu0 : okk κ 1 u0) {kc : Nat} {R : Room} {cells slots : Nat} (hRr : RmOK R kc) (hcel : cells ≤ R.cells ∧ slots ≤ R.slots) (hk : 0 + 1 ≤ kc) {M : Mem} {H : Heap} {locs : List Loc} (hR : Rp G e0 α κ B M H) (hS : va_S (fun q => B ≤ q) s.heap H locs) (k1 : Cond.methodLink own idx yX0_rightPart ∈ gw) {ls : Array Slot} (hml : ls.size = nL) {rest : List Value} (hd : decode cc pc = .ok (.invokevirtual idx, 3)) (hrest : (rest.map fun v => v.category).sum ≤ 8) {Q : State → Prop} {Qm : Int → Mem → Prop} (hw : wp_X0_rightPart u0 M Qm) (kk : ∀ (r : Int) (M1 : Mem) (H1 : Heap) (locs1 : List Loc), Qm r M1 → inR r → Rp G e0 α κ B M1 H1 → va_S (fun q => B ≤ q) s.heap H1 locs1 → W p l e R s m args below meth c H1 locs1 cells slots Q (F0 m (pc + 3) ls (.int (Int32.ofInt r) :: rest))) : W p l e R s m args below meth c H locs cells slots Q (F0 m pc ls (.ref (α 1 u0) :: rest)) :=
  sa_callVI 0 (n := 0) (As := []) (rest := rest) X.1 X.2.1 hR hS (m_X0_rightPart X.2.2.1 hu0 hw) k1 kw_423 kw_424 kw_52 kw_425 ⟨rfl, by decide +kernel, by decide +kernel, by decide +kernel⟩ (rm_ok hRr hk (by decide)) (rc_1 X hR hu0) rfl rfl hrest hml hd hcel kk
def wp_X0_leastByWords_54 (u0 : Int) (Qm : Int → Mem → Prop) (K4 : Int → Int → Mem → Prop) (y1 : Int) (y2 : Int) (z0 : Int) (M : Mem) : Prop := (inR (y2 + 1)) ∧ K4 (max y1 z0) (y2 + 1) M
def wp_X0_leastByWords_4 (u0 : Int) (Qm : Int → Mem → Prop) : Nat → Int → Int → Mem → Prop
  | 0 => fun _ _ _ => False
  | n + 1 => fun y1 y2 M => (((M 1 u0 7) ≤ y2 → Qm y1 M) ∧ (y2 < (M 1 u0 7) → (0 ≤ y2 ∧ y2 < 12) ∧ ((¬ (M 26 u0 y2) = 0 → (0 ≤ y2 ∧ y2 < 12) ∧ (inR ((M 26 u0 y2) + 1)) ∧ (0 ≤ y2 ∧ y2 < 12) ∧ (0 ≤ y2 ∧ y2 < 12) ∧ (inR ((M 25 u0 y2) - (M 26 u0 y2))) ∧ wp_X0_leastByWords_54 u0 Qm (wp_X0_leastByWords_4 u0 Qm n) y1 y2 (max ((M 26 u0 y2) + 1) ((M 25 u0 y2) - (M 26 u0 y2))) M) ∧ ((M 26 u0 y2) = 0 → (0 ≤ y2 ∧ y2 < 12) ∧ wp_X0_leastByWords_54 u0 Qm (wp_X0_leastByWords_4 u0 Qm n) y1 y2 (M 25 u0 y2) M))))
def wp_X0_leastByWords (u0 : Int) (M : Mem) (Qm : Int → Mem → Prop) : Prop := (∃ n15 : Nat, wp_X0_leastByWords_4 u0 Qm n15 0 0 M)
set_option maxHeartbeats 4000000 in
set_option maxRecDepth 100000 in
theorem t_X0_leastByWords_54 {u0 : Int} (X : CX p m c cX0_leastByWords 4 s args RX0 G B κ meth (some .int)) (hu0 : okk κ 1 u0) {Qm : Int → Mem → Prop} {K4 : Int → Int → Mem → Prop} (hK4 : ∀ y1 : Int, ∀ y2 : Int, ∀ M : Mem, K4 y1 y2 M → inR y1 → inR y2 → ∀ (H : Heap) (locs : List Loc), Rp G e0 α κ B M H → va_S (fun q => B ≤ q) s.heap H locs → ∀ (ls : Array Slot), lv_has ls 4 [(0, .ref (α 1 u0)), (1, .int (Int32.ofInt y1)), (2, .int (Int32.ofInt y2))] → WI p l e 1 s m args below meth c G e0 α κ B Qm H locs 4 ls []) : ∀ y1 : Int, ∀ y2 : Int, ∀ z0 : Int, ∀ M : Mem, wp_X0_leastByWords_54 u0 Qm K4 y1 y2 z0 M → inR y1 → inR y2 → inR z0 → ∀ (H : Heap) (locs : List Loc), Rp G e0 α κ B M H → va_S (fun q => B ≤ q) s.heap H locs → ∀ (ls : Array Slot), lv_has ls 4 [(0, .ref (α 1 u0)), (1, .int (Int32.ofInt y1)), (2, .int (Int32.ofInt y2))] → WI p l e 1 s m args below meth c G e0 α κ B Qm H locs 54 ls [.int (Int32.ofInt z0)] := by
  intro y1 y2 z0 M hw hy1 hy2 hz0 H locs hR hS ls hl
  have hw : (inR (y2 + 1)) ∧ K4 (max y1 z0) (y2 + 1) M := hw
  refine lv_istore_n (lv' := [(3, .int (Int32.ofInt z0)), (0, .ref (α 1 u0)), (1, .int (Int32.ofInt y1)), (2, .int (Int32.ofInt y2))]) X.1.1 X.1.2.1 dX0_leastByWords_54 rfl hl (by decide) rfl (fun ls hl => ?_)
  refine lv_iload_n X.1.1 X.1.2.1 dX0_leastByWords_55 rfl (lv_at hl 2 rfl) ?_
  refine lv_iload_n X.1.1 X.1.2.1 dX0_leastByWords_56 rfl (lv_at hl 0 rfl) ?_
  refine sa_max (R := rmL 1) X.1 hy1 hz0 hl.1 kw_457 kmath_max_s kmath_i kmath_max_c (by decide) (Nat.le_of_ble_eq_true rfl) rm_c dX0_leastByWords_57 ?_
  refine lv_istore_n (lv' := [(1, .int (Int32.ofInt (max y1 z0))), (3, .int (Int32.ofInt z0)), (0, .ref (α 1 u0)), (2, .int (Int32.ofInt y2))]) X.1.1 X.1.2.1 dX0_leastByWords_60 rfl hl (by decide) rfl (fun ls hl => ?_)
  have c12 := hw.1
  have hw := hw.2
  refine lv_iinc (v := Int32.ofInt (y2 + 1)) (lv' := [(2, .int (Int32.ofInt (y2 + 1))), (1, .int (Int32.ofInt (max y1 z0))), (3, .int (Int32.ofInt z0)), (0, .ref (α 1 u0))]) X.1.1 X.1.2.1 dX0_leastByWords_61 hl (k := 3) rfl (Int32.ofInt_add _ _).symm (by decide) rfl (fun ls hl => ?_)
  refine lv_goto (tgt := 4) X.1.1 X.1.2.1 dX0_leastByWords_64 (by decide) ?_
  exact hK4 _ _ _ hw (inR_max hy1 hz0) c12 _ _ hR hS _ (lv_sub hl [3, 1, 0] rfl)
set_option maxHeartbeats 4000000 in
set_option maxRecDepth 100000 in
theorem t_X0_leastByWords_4 {u0 : Int} (X : CX p m c cX0_leastByWords 4 s args RX0 G B κ meth (some .int)) (hu0 : okk κ 1 u0) {Qm : Int → Mem → Prop} : ∀ n : Nat, ∀ y1 : Int, ∀ y2 : Int, ∀ M : Mem, wp_X0_leastByWords_4 u0 Qm n y1 y2 M → inR y1 → inR y2 → ∀ (H : Heap) (locs : List Loc), Rp G e0 α κ B M H → va_S (fun q => B ≤ q) s.heap H locs → ∀ (ls : Array Slot), lv_has ls 4 [(0, .ref (α 1 u0)), (1, .int (Int32.ofInt y1)), (2, .int (Int32.ofInt y2))] → WI p l e 1 s m args below meth c G e0 α κ B Qm H locs 4 ls [] := by
  intro n
  induction n with
  | zero =>
    intro y1 y2 M hw hy1 hy2 H locs hR hS ls hl
    exact hw.elim
  | succ n ih =>
    intro y1 y2 M hw hy1 hy2 H locs hR hS ls hl
    have hw : (((M 1 u0 7) ≤ y2 → Qm y1 M) ∧ (y2 < (M 1 u0 7) → (0 ≤ y2 ∧ y2 < 12) ∧ ((¬ (M 26 u0 y2) = 0 → (0 ≤ y2 ∧ y2 < 12) ∧ (inR ((M 26 u0 y2) + 1)) ∧ (0 ≤ y2 ∧ y2 < 12) ∧ (0 ≤ y2 ∧ y2 < 12) ∧ (inR ((M 25 u0 y2) - (M 26 u0 y2))) ∧ wp_X0_leastByWords_54 u0 Qm (wp_X0_leastByWords_4 u0 Qm n) y1 y2 (max ((M 26 u0 y2) + 1) ((M 25 u0 y2) - (M 26 u0 y2))) M) ∧ ((M 26 u0 y2) = 0 → (0 ≤ y2 ∧ y2 < 12) ∧ wp_X0_leastByWords_54 u0 Qm (wp_X0_leastByWords_4 u0 Qm n) y1 y2 (M 25 u0 y2) M)))) := hw
    refine lv_iload_n X.1.1 X.1.2.1 dX0_leastByWords_4 rfl (lv_at hl 2 rfl) ?_
    refine lv_aload_n X.1.1 X.1.2.1 dX0_leastByWords_5 rfl (lv_at hl 0 rfl) ?_
    refine gt_1_7 X hR hu0 kw_1003 dX0_leastByWords_6 ?_
    have r1 := hR.r 1 u0 7
    refine sa_icmp_ge (tgt := 67) X.1 hy2 r1 dX0_leastByWords_9 (by decide) (fun hc => ?_) (fun hc => ?_)
    · have hw := hw.1 hc
      refine lv_iload_n X.1.1 X.1.2.1 dX0_leastByWords_67 rfl (lv_at hl 1 rfl) ?_
      exact sa_iret X.1 X.2.2.2.1 X.2.2.2.2 hR hS hy1 hw dX0_leastByWords_68
    · have hw := hw.2 hc
      refine lv_aload_n X.1.1 X.1.2.1 dX0_leastByWords_12 rfl (lv_at hl 0 rfl) ?_
      refine gt_1_6 X hR hu0 kw_1002 dX0_leastByWords_13 ?_
      refine lv_iload_n X.1.1 X.1.2.1 dX0_leastByWords_16 rfl (lv_at hl 2 rfl) ?_
      have c2 := hw.1
      have hw := hw.2
      refine ra_26 X hR (ok2 X.2.2.1 rfl hu0) c2 dX0_leastByWords_17 ?_
      have r3 := hR.r 26 u0 y2
      refine sa_if_ne (tgt := 30) X.1 r3 dX0_leastByWords_18 (by decide) (fun hc => ?_) (fun hc => ?_)
      · have hw := hw.1 hc
        refine lv_aload_n X.1.1 X.1.2.1 dX0_leastByWords_30 rfl (lv_at hl 0 rfl) ?_
        refine gt_1_6 X hR hu0 kw_1002 dX0_leastByWords_31 ?_
        refine lv_iload_n X.1.1 X.1.2.1 dX0_leastByWords_34 rfl (lv_at hl 2 rfl) ?_
        have c4 := hw.1
        have hw := hw.2
        refine ra_26 X hR (ok2 X.2.2.1 rfl hu0) c4 dX0_leastByWords_35 ?_
        have r5 := hR.r 26 u0 y2
        refine sa_const X.1 dX0_leastByWords_36 ?_
        have c6 := hw.1
        have hw := hw.2
        refine sa_iadd X.1 dX0_leastByWords_37 ?_
        refine lv_aload_n X.1.1 X.1.2.1 dX0_leastByWords_38 rfl (lv_at hl 0 rfl) ?_
        refine gt_1_5 X hR hu0 kw_1001 dX0_leastByWords_39 ?_
        refine lv_iload_n X.1.1 X.1.2.1 dX0_leastByWords_42 rfl (lv_at hl 2 rfl) ?_
        have c7 := hw.1
        have hw := hw.2
        refine ra_25 X hR (ok2 X.2.2.1 rfl hu0) c7 dX0_leastByWords_43 ?_
        have r8 := hR.r 25 u0 y2
        refine lv_aload_n X.1.1 X.1.2.1 dX0_leastByWords_44 rfl (lv_at hl 0 rfl) ?_
        refine gt_1_6 X hR hu0 kw_1002 dX0_leastByWords_45 ?_
        refine lv_iload_n X.1.1 X.1.2.1 dX0_leastByWords_48 rfl (lv_at hl 2 rfl) ?_
        have c9 := hw.1
        have hw := hw.2
        refine ra_26 X hR (ok2 X.2.2.1 rfl hu0) c9 dX0_leastByWords_49 ?_
        have r10 := hR.r 26 u0 y2
        have c11 := hw.1
        have hw := hw.2
        refine sa_isub X.1 dX0_leastByWords_50 ?_
        refine sa_max (R := rmL 1) X.1 c6 c11 hl.1 kw_457 kmath_max_s kmath_i kmath_max_c (by decide) (Nat.le_of_ble_eq_true rfl) rm_c dX0_leastByWords_51 ?_
        exact t_X0_leastByWords_54 X hu0 ih _ _ _ _ hw hy1 hy2 (inR_max c6 c11) _ _ hR hS _ (lv_sub hl [0, 1, 2] rfl)
      · have hw := hw.2 hc
        refine lv_aload_n X.1.1 X.1.2.1 dX0_leastByWords_21 rfl (lv_at hl 0 rfl) ?_
        refine gt_1_5 X hR hu0 kw_1001 dX0_leastByWords_22 ?_
        refine lv_iload_n X.1.1 X.1.2.1 dX0_leastByWords_25 rfl (lv_at hl 2 rfl) ?_
        have c13 := hw.1
        have hw := hw.2
        refine ra_25 X hR (ok2 X.2.2.1 rfl hu0) c13 dX0_leastByWords_26 ?_
        have r14 := hR.r 25 u0 y2
        refine lv_goto (tgt := 54) X.1.1 X.1.2.1 dX0_leastByWords_27 (by decide) ?_
        exact t_X0_leastByWords_54 X hu0 ih _ _ _ _ hw hy1 hy2 r14 _ _ hR hS _ (lv_sub hl [0, 1, 2] rfl)
set_option maxHeartbeats 4000000 in
set_option maxRecDepth 100000 in
theorem t_X0_leastByWords {u0 : Int} (X : CX p m c cX0_leastByWords 4 s args RX0 G B κ meth (some .int)) (hu0 : okk κ 1 u0) {M : Mem} {Qm : Int → Mem → Prop} (hw : wp_X0_leastByWords u0 M Qm) (H : Heap) (locs : List Loc) (hR : Rp G e0 α κ B M H) (hS : va_S (fun q => B ≤ q) s.heap H locs) (ls : Array Slot) (hl : lv_has ls 4 [(0, .ref (α 1 u0))]) : WI p l e 1 s m args below meth c G e0 α κ B Qm H locs 0 ls [] := by
  have hw : (∃ n15 : Nat, wp_X0_leastByWords_4 u0 Qm n15 0 0 M) := hw
  refine sa_const X.1 dX0_leastByWords_0 ?_
  refine lv_istore_n (lv' := [(1, .int (Int32.ofInt 0)), (0, .ref (α 1 u0))]) X.1.1 X.1.2.1 dX0_leastByWords_1 rfl hl (by decide) rfl (fun ls hl => ?_)
  refine sa_const X.1 dX0_leastByWords_2 ?_
  refine lv_istore_n (lv' := [(2, .int (Int32.ofInt 0)), (1, .int (Int32.ofInt 0)), (0, .ref (α 1 u0))]) X.1.1 X.1.2.1 dX0_leastByWords_3 rfl hl (by decide) rfl (fun ls hl => ?_)
  obtain ⟨n15, hw⟩ := hw
  exact t_X0_leastByWords_4 X hu0 n15 _ _ _ hw (inR_c (a := 0) rfl) (inR_c (a := 0) rfl) _ _ hR hS _ (lv_sub hl [2, 1, 0] rfl)
theorem m_X0_leastByWords {l : Launch} {G : Gx} {e0 : Nat} {α : Ax} {κ : Nat → Int} {B : Nat} {u0 : Int} (hκ : kOK κ) (hu0 : okk κ 1 u0) {M : Mem} {Qm : Int → Mem → Prop} (hw : wp_X0_leastByWords u0 M Qm) : CI l yX0_leastByWords (Cond.code yX0_leastByWords cX0_leastByWords 4 (some .int)) 1 G e0 α κ B [.ref (α 1 u0)] M Qm :=
  CI.mk hκ (by decide +kernel) rfl (Nat.le_of_ble_eq_true rfl) (lv := [(0, .ref (α 1 u0))]) rfl (fun p e s m args below meth c ls X hR hS hl => t_X0_leastByWords X hu0 hw _ _ hR hS ls hl)
theorem cs_X0_leastByWords {cc : ByteArray} {nL : Nat} {own : String} {ret : Option FieldType} {idx pc : Nat} {u0 : Int} (X : CX p m c cc nL s args own G B κ meth ret) (hu0 : okk κ 1 u0) {kc : Nat} {R : Room} {cells slots : Nat} (hRr : RmOK R kc) (hcel : cells ≤ R.cells ∧ slots ≤ R.slots) (hk : 1 + 1 ≤ kc) {M : Mem} {H : Heap} {locs : List Loc} (hR : Rp G e0 α κ B M H) (hS : va_S (fun q => B ≤ q) s.heap H locs) (k1 : Cond.methodLink own idx yX0_leastByWords ∈ gw) {ls : Array Slot} (hml : ls.size = nL) {rest : List Value} (hd : decode cc pc = .ok (.invokevirtual idx, 3)) (hrest : (rest.map fun v => v.category).sum ≤ 8) {Q : State → Prop} {Qm : Int → Mem → Prop} (hw : wp_X0_leastByWords u0 M Qm) (kk : ∀ (r : Int) (M1 : Mem) (H1 : Heap) (locs1 : List Loc), Qm r M1 → inR r → Rp G e0 α κ B M1 H1 → va_S (fun q => B ≤ q) s.heap H1 locs1 → W p l e R s m args below meth c H1 locs1 cells slots Q (F0 m (pc + 3) ls (.int (Int32.ofInt r) :: rest))) : W p l e R s m args below meth c H locs cells slots Q (F0 m pc ls (.ref (α 1 u0) :: rest)) :=
  sa_callVI 1 (n := 0) (As := []) (rest := rest) X.1 X.2.1 hR hS (m_X0_leastByWords X.2.2.1 hu0 hw) k1 kw_454 kw_455 kw_52 kw_456 ⟨rfl, by decide +kernel, by decide +kernel, by decide +kernel⟩ (rm_ok hRr hk (by decide)) (rc_1 X hR hu0) rfl rfl hrest hml hd hcel kk
def wp_X0_mostByWords_13 (u0 : Int) (Qm : Int → Mem → Prop) : Nat → Int → Int → Mem → Prop
  | 0 => fun _ _ _ => False
  | n + 1 => fun y1 y2 M => (((M 1 u0 7) ≤ y2 → Qm y1 M) ∧ (y2 < (M 1 u0 7) → (0 ≤ y2 ∧ y2 < 12) ∧ (inR (y1 + (M 25 u0 y2))) ∧ (inR (y2 + 1)) ∧ wp_X0_mostByWords_13 u0 Qm n (y1 + (M 25 u0 y2)) (y2 + 1) M))
def wp_X0_mostByWords (u0 : Int) (M : Mem) (Qm : Int → Mem → Prop) : Prop := (inR ((M 1 u0 7) - 1)) ∧ (∃ n8 : Nat, wp_X0_mostByWords_13 u0 Qm n8 (max 0 ((M 1 u0 7) - 1)) 0 M)
set_option maxHeartbeats 4000000 in
set_option maxRecDepth 100000 in
theorem t_X0_mostByWords_13 {u0 : Int} (X : CX p m c cX0_mostByWords 3 s args RX0 G B κ meth (some .int)) (hu0 : okk κ 1 u0) {Qm : Int → Mem → Prop} : ∀ n : Nat, ∀ y1 : Int, ∀ y2 : Int, ∀ M : Mem, wp_X0_mostByWords_13 u0 Qm n y1 y2 M → inR y1 → inR y2 → ∀ (H : Heap) (locs : List Loc), Rp G e0 α κ B M H → va_S (fun q => B ≤ q) s.heap H locs → ∀ (ls : Array Slot), lv_has ls 3 [(0, .ref (α 1 u0)), (1, .int (Int32.ofInt y1)), (2, .int (Int32.ofInt y2))] → WI p l e 1 s m args below meth c G e0 α κ B Qm H locs 13 ls [] := by
  intro n
  induction n with
  | zero =>
    intro y1 y2 M hw hy1 hy2 H locs hR hS ls hl
    exact hw.elim
  | succ n ih =>
    intro y1 y2 M hw hy1 hy2 H locs hR hS ls hl
    have hw : (((M 1 u0 7) ≤ y2 → Qm y1 M) ∧ (y2 < (M 1 u0 7) → (0 ≤ y2 ∧ y2 < 12) ∧ (inR (y1 + (M 25 u0 y2))) ∧ (inR (y2 + 1)) ∧ wp_X0_mostByWords_13 u0 Qm n (y1 + (M 25 u0 y2)) (y2 + 1) M)) := hw
    refine lv_iload_n X.1.1 X.1.2.1 dX0_mostByWords_13 rfl (lv_at hl 2 rfl) ?_
    refine lv_aload_n X.1.1 X.1.2.1 dX0_mostByWords_14 rfl (lv_at hl 0 rfl) ?_
    refine gt_1_7 X hR hu0 kw_1003 dX0_mostByWords_15 ?_
    have r3 := hR.r 1 u0 7
    refine sa_icmp_ge (tgt := 36) X.1 hy2 r3 dX0_mostByWords_18 (by decide) (fun hc => ?_) (fun hc => ?_)
    · have hw := hw.1 hc
      refine lv_iload_n X.1.1 X.1.2.1 dX0_mostByWords_36 rfl (lv_at hl 1 rfl) ?_
      exact sa_iret X.1 X.2.2.2.1 X.2.2.2.2 hR hS hy1 hw dX0_mostByWords_37
    · have hw := hw.2 hc
      refine lv_iload_n X.1.1 X.1.2.1 dX0_mostByWords_21 rfl (lv_at hl 1 rfl) ?_
      refine lv_aload_n X.1.1 X.1.2.1 dX0_mostByWords_22 rfl (lv_at hl 0 rfl) ?_
      refine gt_1_5 X hR hu0 kw_1001 dX0_mostByWords_23 ?_
      refine lv_iload_n X.1.1 X.1.2.1 dX0_mostByWords_26 rfl (lv_at hl 2 rfl) ?_
      have c4 := hw.1
      have hw := hw.2
      refine ra_25 X hR (ok2 X.2.2.1 rfl hu0) c4 dX0_mostByWords_27 ?_
      have r5 := hR.r 25 u0 y2
      have c6 := hw.1
      have hw := hw.2
      refine sa_iadd X.1 dX0_mostByWords_28 ?_
      refine lv_istore_n (lv' := [(1, .int (Int32.ofInt (y1 + (M 25 u0 y2)))), (0, .ref (α 1 u0)), (2, .int (Int32.ofInt y2))]) X.1.1 X.1.2.1 dX0_mostByWords_29 rfl hl (by decide) rfl (fun ls hl => ?_)
      have c7 := hw.1
      have hw := hw.2
      refine lv_iinc (v := Int32.ofInt (y2 + 1)) (lv' := [(2, .int (Int32.ofInt (y2 + 1))), (1, .int (Int32.ofInt (y1 + (M 25 u0 y2)))), (0, .ref (α 1 u0))]) X.1.1 X.1.2.1 dX0_mostByWords_30 hl (k := 2) rfl (Int32.ofInt_add _ _).symm (by decide) rfl (fun ls hl => ?_)
      refine lv_goto (tgt := 13) X.1.1 X.1.2.1 dX0_mostByWords_33 (by decide) ?_
      exact ih _ _ _ hw c6 c7 _ _ hR hS _ (lv_sub hl [2, 1, 0] rfl)
set_option maxHeartbeats 4000000 in
set_option maxRecDepth 100000 in
theorem t_X0_mostByWords {u0 : Int} (X : CX p m c cX0_mostByWords 3 s args RX0 G B κ meth (some .int)) (hu0 : okk κ 1 u0) {M : Mem} {Qm : Int → Mem → Prop} (hw : wp_X0_mostByWords u0 M Qm) (H : Heap) (locs : List Loc) (hR : Rp G e0 α κ B M H) (hS : va_S (fun q => B ≤ q) s.heap H locs) (ls : Array Slot) (hl : lv_has ls 3 [(0, .ref (α 1 u0))]) : WI p l e 1 s m args below meth c G e0 α κ B Qm H locs 0 ls [] := by
  have hw : (inR ((M 1 u0 7) - 1)) ∧ (∃ n8 : Nat, wp_X0_mostByWords_13 u0 Qm n8 (max 0 ((M 1 u0 7) - 1)) 0 M) := hw
  refine sa_const X.1 dX0_mostByWords_0 ?_
  refine lv_aload_n X.1.1 X.1.2.1 dX0_mostByWords_1 rfl (lv_at hl 0 rfl) ?_
  refine gt_1_7 X hR hu0 kw_1003 dX0_mostByWords_2 ?_
  have r1 := hR.r 1 u0 7
  refine sa_const X.1 dX0_mostByWords_5 ?_
  have c2 := hw.1
  have hw := hw.2
  refine sa_isub X.1 dX0_mostByWords_6 ?_
  refine sa_max (R := rmL 1) X.1 (inR_c (a := 0) rfl) c2 hl.1 kw_457 kmath_max_s kmath_i kmath_max_c (by decide) (Nat.le_of_ble_eq_true rfl) rm_c dX0_mostByWords_7 ?_
  refine lv_istore_n (lv' := [(1, .int (Int32.ofInt (max 0 ((M 1 u0 7) - 1)))), (0, .ref (α 1 u0))]) X.1.1 X.1.2.1 dX0_mostByWords_10 rfl hl (by decide) rfl (fun ls hl => ?_)
  refine sa_const X.1 dX0_mostByWords_11 ?_
  refine lv_istore_n (lv' := [(2, .int (Int32.ofInt 0)), (1, .int (Int32.ofInt (max 0 ((M 1 u0 7) - 1)))), (0, .ref (α 1 u0))]) X.1.1 X.1.2.1 dX0_mostByWords_12 rfl hl (by decide) rfl (fun ls hl => ?_)
  obtain ⟨n8, hw⟩ := hw
  exact t_X0_mostByWords_13 X hu0 n8 _ _ _ hw (inR_max (inR_c (a := 0) rfl) c2) (inR_c (a := 0) rfl) _ _ hR hS _ (lv_sub hl [2, 1, 0] rfl)
theorem m_X0_mostByWords {l : Launch} {G : Gx} {e0 : Nat} {α : Ax} {κ : Nat → Int} {B : Nat} {u0 : Int} (hκ : kOK κ) (hu0 : okk κ 1 u0) {M : Mem} {Qm : Int → Mem → Prop} (hw : wp_X0_mostByWords u0 M Qm) : CI l yX0_mostByWords (Cond.code yX0_mostByWords cX0_mostByWords 3 (some .int)) 1 G e0 α κ B [.ref (α 1 u0)] M Qm :=
  CI.mk hκ (by decide +kernel) rfl (Nat.le_of_ble_eq_true rfl) (lv := [(0, .ref (α 1 u0))]) rfl (fun p e s m args below meth c ls X hR hS hl => t_X0_mostByWords X hu0 hw _ _ hR hS ls hl)
theorem cs_X0_mostByWords {cc : ByteArray} {nL : Nat} {own : String} {ret : Option FieldType} {idx pc : Nat} {u0 : Int} (X : CX p m c cc nL s args own G B κ meth ret) (hu0 : okk κ 1 u0) {kc : Nat} {R : Room} {cells slots : Nat} (hRr : RmOK R kc) (hcel : cells ≤ R.cells ∧ slots ≤ R.slots) (hk : 1 + 1 ≤ kc) {M : Mem} {H : Heap} {locs : List Loc} (hR : Rp G e0 α κ B M H) (hS : va_S (fun q => B ≤ q) s.heap H locs) (k1 : Cond.methodLink own idx yX0_mostByWords ∈ gw) {ls : Array Slot} (hml : ls.size = nL) {rest : List Value} (hd : decode cc pc = .ok (.invokevirtual idx, 3)) (hrest : (rest.map fun v => v.category).sum ≤ 8) {Q : State → Prop} {Qm : Int → Mem → Prop} (hw : wp_X0_mostByWords u0 M Qm) (kk : ∀ (r : Int) (M1 : Mem) (H1 : Heap) (locs1 : List Loc), Qm r M1 → inR r → Rp G e0 α κ B M1 H1 → va_S (fun q => B ≤ q) s.heap H1 locs1 → W p l e R s m args below meth c H1 locs1 cells slots Q (F0 m (pc + 3) ls (.int (Int32.ofInt r) :: rest))) : W p l e R s m args below meth c H locs cells slots Q (F0 m pc ls (.ref (α 1 u0) :: rest)) :=
  sa_callVI 1 (n := 0) (As := []) (rest := rest) X.1 X.2.1 hR hS (m_X0_mostByWords X.2.2.1 hu0 hw) k1 kw_459 kw_460 kw_52 kw_461 ⟨rfl, by decide +kernel, by decide +kernel, by decide +kernel⟩ (rm_ok hRr hk (by decide)) (rc_1 X hR hu0) rfl rfl hrest hml hd hcel kk
def wp_X0_begin (p0 : Int) (M : Mem) (Qm : Int → Mem → Prop) : Prop := (¬ p0 = 0 → (inR (p0 + 1)) ∧ True) ∧ (inR (if ¬ p0 = 0 then (p0 + 1) else 0)) ∧ Qm (if ¬ p0 = 0 then (p0 + 1) else 0) M
set_option maxHeartbeats 4000000 in
set_option maxRecDepth 100000 in
theorem t_X0_begin {p0 : Int} (X : CX p m c cX0_begin 1 s args RX0 G B κ meth (some .int)) (hp0 : inR p0) {M : Mem} {Qm : Int → Mem → Prop} (hw : wp_X0_begin p0 M Qm) (H : Heap) (locs : List Loc) (hR : Rp G e0 α κ B M H) (hS : va_S (fun q => B ≤ q) s.heap H locs) (ls : Array Slot) (hl : lv_has ls 1 [(0, .int (Int32.ofInt p0))]) : WI p l e 0 s m args below meth c G e0 α κ B Qm H locs 0 ls [] := by
  have hw : (¬ p0 = 0 → (inR (p0 + 1)) ∧ True) ∧ (inR (if ¬ p0 = 0 then (p0 + 1) else 0)) ∧ Qm (if ¬ p0 = 0 then (p0 + 1) else 0) M := hw
  refine lv_iload_n X.1.1 X.1.2.1 dX0_begin_0 rfl (lv_at hl 0 rfl) ?_
  have s2 := hw.1
  have hw := hw.2
  have c3 := hw.1
  have hw := hw.2
  refine cut_j (A := ∀ v4 : Int, v4 = (if ¬ p0 = 0 then (p0 + 1) else 0) → WI p l e 0 s m args below meth c G e0 α κ B Qm H locs 11 ls [.int (Int32.ofInt v4)]) (fun J5 => ?_) ?_
  · refine sa_if_ne (tgt := 8) X.1 hp0 dX0_begin_1 (by decide) (fun hc => ?_) (fun hc => ?_)
    · have hw := s2 hc
      refine lv_iload_n X.1.1 X.1.2.1 dX0_begin_8 rfl (lv_at hl 0 rfl) ?_
      refine sa_const X.1 dX0_begin_9 ?_
      have c1 := hw.1
      have hw := hw.2
      refine sa_iadd X.1 dX0_begin_10 ?_
      exact J5 ((p0 + 1)) (if_pos (c := ¬ p0 = 0) hc).symm
    · skip
      refine sa_const X.1 dX0_begin_4 ?_
      refine lv_goto (tgt := 11) X.1.1 X.1.2.1 dX0_begin_5 (by decide) ?_
      exact J5 (0) (if_neg (c := ¬ p0 = 0) (fun z => z hc)).symm
  intro v4 hv4
  subst hv4
  exact sa_iret X.1 X.2.2.2.1 X.2.2.2.2 hR hS c3 hw dX0_begin_11
theorem m_X0_begin {l : Launch} {G : Gx} {e0 : Nat} {α : Ax} {κ : Nat → Int} {B : Nat} {p0 : Int} (hκ : kOK κ) (hp0 : inR p0) {M : Mem} {Qm : Int → Mem → Prop} (hw : wp_X0_begin p0 M Qm) : CI l yX0_begin (Cond.code yX0_begin cX0_begin 1 (some .int)) 0 G e0 α κ B [.int (Int32.ofInt p0)] M Qm :=
  CI.mk hκ (by decide +kernel) rfl (Nat.le_of_ble_eq_true rfl) (lv := [(0, .int (Int32.ofInt p0))]) rfl (fun p e s m args below meth c ls X hR hS hl => t_X0_begin X hp0 hw _ _ hR hS ls hl)
theorem cs_X0_begin {cc : ByteArray} {nL : Nat} {own : String} {ret : Option FieldType} {idx pc : Nat} {p0 : Int} (X : CX p m c cc nL s args own G B κ meth ret) (hp0 : inR p0) {kc : Nat} {R : Room} {cells slots : Nat} (hRr : RmOK R kc) (hcel : cells ≤ R.cells ∧ slots ≤ R.slots) (hk : 0 + 1 ≤ kc) {M : Mem} {H : Heap} {locs : List Loc} (hR : Rp G e0 α κ B M H) (hS : va_S (fun q => B ≤ q) s.heap H locs) (k1 : Cond.methodLink own idx yX0_begin ∈ gw) {ls : Array Slot} (hml : ls.size = nL) {rest : List Value} (hd : decode cc pc = .ok (.invokestatic idx, 3)) (hrest : (rest.map fun v => v.category).sum ≤ 8) {Q : State → Prop} {Qm : Int → Mem → Prop} (hw : wp_X0_begin p0 M Qm) (kk : ∀ (r : Int) (M1 : Mem) (H1 : Heap) (locs1 : List Loc), Qm r M1 → inR r → Rp G e0 α κ B M1 H1 → va_S (fun q => B ≤ q) s.heap H1 locs1 → W p l e R s m args below meth c H1 locs1 cells slots Q (F0 m (pc + 3) ls (.int (Int32.ofInt r) :: rest))) : W p l e R s m args below meth c H locs cells slots Q (F0 m pc ls (.int (Int32.ofInt p0) :: rest)) :=
  sa_callSI 0 (n := 1) (As := [.int (Int32.ofInt p0)]) (rest := rest) X.1 X.2.1 hR hS (m_X0_begin X.2.2.1 hp0 hw) k1 kw_527 kw_52 kw_528 ⟨by decide +kernel, by decide +kernel, by decide +kernel⟩ (rm_ok hRr hk (by decide)) rfl rfl hrest hml hd hcel kk
def wp_X2_addItem_60 (p1 : Int) (p2 : Int) (p3 : Int) (p4 : Int) (Qm : Mem → Prop) (M : Mem) : Prop := Qm M
def wp_X2_addItem (p1 : Int) (p2 : Int) (p3 : Int) (p4 : Int) (M : Mem) (Qm : Mem → Prop) : Prop := ((50 ≤ (M 3 0 8) → wp_X2_addItem_60 p1 p2 p3 p4 Qm M) ∧ ((M 3 0 8) < 50 → (0 ≤ (M 3 0 8) ∧ (M 3 0 8) < 50) ∧ ∀ M4 : Mem, M4 = up M 28 0 (M 3 0 8) p1 → (0 ≤ (M4 3 0 8) ∧ (M4 3 0 8) < 50) ∧ ∀ M8 : Mem, M8 = up M4 29 0 (M4 3 0 8) p2 → (0 ≤ (M8 3 0 8) ∧ (M8 3 0 8) < 50) ∧ ∀ M12 : Mem, M12 = up M8 30 0 (M8 3 0 8) p3 → (bit p4) ∧ (0 ≤ (M12 3 0 8) ∧ (M12 3 0 8) < 50) ∧ ∀ M17 : Mem, M17 = up M12 31 0 (M12 3 0 8) p4 → (inR ((M17 3 0 8) + 1)) ∧ ∀ M21 : Mem, M21 = up M17 3 0 8 ((M17 3 0 8) + 1) → wp_X2_addItem_60 p1 p2 p3 p4 Qm M21))
set_option maxHeartbeats 4000000 in
set_option maxRecDepth 100000 in
theorem t_X2_addItem_60 {p1 : Int} {p2 : Int} {p3 : Int} {p4 : Int} (X : CX p m c cX2_addItem 5 s args RX2 G B κ meth none) (hp1 : inR p1) (hp2 : inR p2) (hp3 : inR p3) (hp4 : inR p4) {Qm : Mem → Prop} : ∀ M : Mem, wp_X2_addItem_60 p1 p2 p3 p4 Qm M → ∀ (H : Heap) (locs : List Loc), Rp G e0 α κ B M H → va_S (fun q => B ≤ q) s.heap H locs → ∀ (ls : Array Slot), lv_has ls 5 [] → WV p l e 0 s m args below meth c G e0 α κ B Qm H locs 60 ls [] := by
  intro M hw H locs hR hS ls hl
  have hw : Qm M := hw
  exact sa_vret X.1 X.2.2.2.1 X.2.2.2.2 hR hS hw dX2_addItem_60
set_option maxHeartbeats 4000000 in
set_option maxRecDepth 100000 in
theorem t_X2_addItem {p1 : Int} {p2 : Int} {p3 : Int} {p4 : Int} (X : CX p m c cX2_addItem 5 s args RX2 G B κ meth none) (hp1 : inR p1) (hp2 : inR p2) (hp3 : inR p3) (hp4 : inR p4) {M : Mem} {Qm : Mem → Prop} (hw : wp_X2_addItem p1 p2 p3 p4 M Qm) (H : Heap) (locs : List Loc) (hR : Rp G e0 α κ B M H) (hS : va_S (fun q => B ≤ q) s.heap H locs) (ls : Array Slot) (hl : lv_has ls 5 [(0, .ref (α 3 0)), (1, .int (Int32.ofInt p1)), (2, .int (Int32.ofInt p2)), (3, .int (Int32.ofInt p3)), (4, .int (Int32.ofInt p4))]) : WV p l e 0 s m args below meth c G e0 α κ B Qm H locs 0 ls [] := by
  have hw : ((50 ≤ (M 3 0 8) → wp_X2_addItem_60 p1 p2 p3 p4 Qm M) ∧ ((M 3 0 8) < 50 → (0 ≤ (M 3 0 8) ∧ (M 3 0 8) < 50) ∧ ∀ M4 : Mem, M4 = up M 28 0 (M 3 0 8) p1 → (0 ≤ (M4 3 0 8) ∧ (M4 3 0 8) < 50) ∧ ∀ M8 : Mem, M8 = up M4 29 0 (M4 3 0 8) p2 → (0 ≤ (M8 3 0 8) ∧ (M8 3 0 8) < 50) ∧ ∀ M12 : Mem, M12 = up M8 30 0 (M8 3 0 8) p3 → (bit p4) ∧ (0 ≤ (M12 3 0 8) ∧ (M12 3 0 8) < 50) ∧ ∀ M17 : Mem, M17 = up M12 31 0 (M12 3 0 8) p4 → (inR ((M17 3 0 8) + 1)) ∧ ∀ M21 : Mem, M21 = up M17 3 0 8 ((M17 3 0 8) + 1) → wp_X2_addItem_60 p1 p2 p3 p4 Qm M21)) := hw
  refine lv_aload_n X.1.1 X.1.2.1 dX2_addItem_0 rfl (lv_at hl 0 rfl) ?_
  refine gt_3_8 X hR (okf X.2.2.1 rfl) kw_297 dX2_addItem_1 ?_
  have r1 := hR.r 3 0 8
  refine sa_bipush X.1 dX2_addItem_4 (by decide) ?_
  refine sa_icmp_ge (tgt := 60) X.1 r1 (inR_c (a := 50) rfl) dX2_addItem_6 (by decide) (fun hc => ?_) (fun hc => ?_)
  · have hw := hw.1 hc
    exact t_X2_addItem_60 X hp1 hp2 hp3 hp4 _ hw _ _ hR hS _ (lv_sub hl [] rfl)
  · have hw := hw.2 hc
    refine lv_aload_n X.1.1 X.1.2.1 dX2_addItem_9 rfl (lv_at hl 0 rfl) ?_
    refine gt_3_3 X hR (okf X.2.2.1 rfl) kw_292 dX2_addItem_10 ?_
    refine lv_aload_n X.1.1 X.1.2.1 dX2_addItem_13 rfl (lv_at hl 0 rfl) ?_
    refine gt_3_8 X hR (okf X.2.2.1 rfl) kw_297 dX2_addItem_14 ?_
    have r2 := hR.r 3 0 8
    refine lv_iload_n X.1.1 X.1.2.1 dX2_addItem_17 rfl (lv_at hl 1 rfl) ?_
    have c3 := hw.1
    have hw := hw.2
    refine wa_28 X hR hS (okf X.2.2.1 rfl) c3 hp1 dX2_addItem_18 (fun H locs hR hS => ?_)
    obtain ⟨M4, e5⟩ : ∃ z : Mem, z = up M 28 0 (M 3 0 8) p1 := ⟨_, rfl⟩
    rw [← e5] at hR
    have hw := hw M4 e5
    refine lv_aload_n X.1.1 X.1.2.1 dX2_addItem_19 rfl (lv_at hl 0 rfl) ?_
    refine gt_3_4 X hR (okf X.2.2.1 rfl) kw_293 dX2_addItem_20 ?_
    refine lv_aload_n X.1.1 X.1.2.1 dX2_addItem_23 rfl (lv_at hl 0 rfl) ?_
    refine gt_3_8 X hR (okf X.2.2.1 rfl) kw_297 dX2_addItem_24 ?_
    have r6 := hR.r 3 0 8
    refine lv_iload_n X.1.1 X.1.2.1 dX2_addItem_27 rfl (lv_at hl 2 rfl) ?_
    have c7 := hw.1
    have hw := hw.2
    refine wa_29 X hR hS (okf X.2.2.1 rfl) c7 hp2 dX2_addItem_28 (fun H locs hR hS => ?_)
    obtain ⟨M8, e9⟩ : ∃ z : Mem, z = up M4 29 0 (M4 3 0 8) p2 := ⟨_, rfl⟩
    rw [← e9] at hR
    have hw := hw M8 e9
    refine lv_aload_n X.1.1 X.1.2.1 dX2_addItem_29 rfl (lv_at hl 0 rfl) ?_
    refine gt_3_5 X hR (okf X.2.2.1 rfl) kw_294 dX2_addItem_30 ?_
    refine lv_aload_n X.1.1 X.1.2.1 dX2_addItem_33 rfl (lv_at hl 0 rfl) ?_
    refine gt_3_8 X hR (okf X.2.2.1 rfl) kw_297 dX2_addItem_34 ?_
    have r10 := hR.r 3 0 8
    refine lv_iload_n X.1.1 X.1.2.1 dX2_addItem_37 rfl (lv_at hl 3 rfl) ?_
    have c11 := hw.1
    have hw := hw.2
    refine wa_30 X hR hS (okf X.2.2.1 rfl) c11 hp3 dX2_addItem_38 (fun H locs hR hS => ?_)
    obtain ⟨M12, e13⟩ : ∃ z : Mem, z = up M8 30 0 (M8 3 0 8) p3 := ⟨_, rfl⟩
    rw [← e13] at hR
    have hw := hw M12 e13
    refine lv_aload_n X.1.1 X.1.2.1 dX2_addItem_39 rfl (lv_at hl 0 rfl) ?_
    refine gt_3_6 X hR (okf X.2.2.1 rfl) kw_295 dX2_addItem_40 ?_
    refine lv_aload_n X.1.1 X.1.2.1 dX2_addItem_43 rfl (lv_at hl 0 rfl) ?_
    refine gt_3_8 X hR (okf X.2.2.1 rfl) kw_297 dX2_addItem_44 ?_
    have r14 := hR.r 3 0 8
    refine lv_iload X.1.1 X.1.2.1 dX2_addItem_47 (lv_at hl 4 rfl) ?_
    have c15 := hw.1
    have hw := hw.2
    have c16 := hw.1
    have hw := hw.2
    refine wa_31 X hR hS (okf X.2.2.1 rfl) c16 c15 dX2_addItem_49 (fun H locs hR hS => ?_)
    obtain ⟨M17, e18⟩ : ∃ z : Mem, z = up M12 31 0 (M12 3 0 8) p4 := ⟨_, rfl⟩
    rw [← e18] at hR
    have hw := hw M17 e18
    refine lv_aload_n X.1.1 X.1.2.1 dX2_addItem_50 rfl (lv_at hl 0 rfl) ?_
    refine lv_dup X.1.1 X.1.2.1 dX2_addItem_51 rfl ?_
    refine gt_3_8 X hR (okf X.2.2.1 rfl) kw_297 dX2_addItem_52 ?_
    have r19 := hR.r 3 0 8
    refine sa_const X.1 dX2_addItem_55 ?_
    have c20 := hw.1
    have hw := hw.2
    refine sa_iadd X.1 dX2_addItem_56 ?_
    refine pt_3_8 X hR hS (okf X.2.2.1 rfl) c20 kw_297 dX2_addItem_57 (fun H locs hR hS => ?_)
    obtain ⟨M21, e22⟩ : ∃ z : Mem, z = up M17 3 0 8 ((M17 3 0 8) + 1) := ⟨_, rfl⟩
    rw [← e22] at hR
    have hw := hw M21 e22
    exact t_X2_addItem_60 X hp1 hp2 hp3 hp4 _ hw _ _ hR hS _ (lv_sub hl [] rfl)
theorem m_X2_addItem {l : Launch} {G : Gx} {e0 : Nat} {α : Ax} {κ : Nat → Int} {B : Nat} {p1 : Int} {p2 : Int} {p3 : Int} {p4 : Int} (hκ : kOK κ) (hp1 : inR p1) (hp2 : inR p2) (hp3 : inR p3) (hp4 : inR p4) {M : Mem} {Qm : Mem → Prop} (hw : wp_X2_addItem p1 p2 p3 p4 M Qm) : CV l yX2_addItem (Cond.code yX2_addItem cX2_addItem 5 none) 0 G e0 α κ B [.ref (α 3 0), .int (Int32.ofInt p1), .int (Int32.ofInt p2), .int (Int32.ofInt p3), .int (Int32.ofInt p4)] M Qm :=
  CV.mk hκ (by decide +kernel) rfl (Nat.le_of_ble_eq_true rfl) (lv := [(0, .ref (α 3 0)), (1, .int (Int32.ofInt p1)), (2, .int (Int32.ofInt p2)), (3, .int (Int32.ofInt p3)), (4, .int (Int32.ofInt p4))]) rfl (fun p e s m args below meth c ls X hR hS hl => t_X2_addItem X hp1 hp2 hp3 hp4 hw _ _ hR hS ls hl)
theorem cs_X2_addItem {cc : ByteArray} {nL : Nat} {own : String} {ret : Option FieldType} {idx pc : Nat} {p1 : Int} {p2 : Int} {p3 : Int} {p4 : Int} (X : CX p m c cc nL s args own G B κ meth ret) (hp1 : inR p1) (hp2 : inR p2) (hp3 : inR p3) (hp4 : inR p4) {kc : Nat} {R : Room} {cells slots : Nat} (hRr : RmOK R kc) (hcel : cells ≤ R.cells ∧ slots ≤ R.slots) (hk : 0 + 1 ≤ kc) {M : Mem} {H : Heap} {locs : List Loc} (hR : Rp G e0 α κ B M H) (hS : va_S (fun q => B ≤ q) s.heap H locs) (k1 : Cond.methodLink own idx yX2_addItem ∈ gw) {ls : Array Slot} (hml : ls.size = nL) {rest : List Value} (hd : decode cc pc = .ok (.invokevirtual idx, 3)) (hrest : (rest.map fun v => v.category).sum ≤ 8) {Q : State → Prop} {Qm : Mem → Prop} (hw : wp_X2_addItem p1 p2 p3 p4 M Qm) (kk : ∀ (M1 : Mem) (H1 : Heap) (locs1 : List Loc), Qm M1 → Rp G e0 α κ B M1 H1 → va_S (fun q => B ≤ q) s.heap H1 locs1 → W p l e R s m args below meth c H1 locs1 cells slots Q (F0 m (pc + 3) ls (rest))) : W p l e R s m args below meth c H locs cells slots Q (F0 m pc ls (.int (Int32.ofInt p4) :: .int (Int32.ofInt p3) :: .int (Int32.ofInt p2) :: .int (Int32.ofInt p1) :: .ref (α 3 0) :: rest)) :=
  sa_callVV 0 (n := 4) (As := [.int (Int32.ofInt p1), .int (Int32.ofInt p2), .int (Int32.ofInt p3), .int (Int32.ofInt p4)]) (rest := rest) X.1 X.2.1 hR hS (m_X2_addItem X.2.2.1 hp1 hp2 hp3 hp4 hw) k1 kw_574 kw_15 kw_47 kw_575 ⟨rfl, by decide +kernel, by decide +kernel, by decide +kernel⟩ (rm_ok hRr hk (by decide)) (rc_3 X hR (okf X.2.2.1 rfl)) rfl rfl hrest hml hd hcel kk
def wp_X3_hasColumn_19 (p1 : Int) (Qm : Int → Mem → Prop) (M : Mem) : Prop := Qm 0 M
def wp_X3_hasColumn (p1 : Int) (M : Mem) (Qm : Int → Mem → Prop) : Prop := ((p1 < 0 → wp_X3_hasColumn_19 p1 Qm M) ∧ (0 ≤ p1 → (bit (if (M 12 0 (-1)) ≤ p1 then (0 : Int) else 1)) ∧ Qm (if (M 12 0 (-1)) ≤ p1 then (0 : Int) else 1) M))
set_option maxHeartbeats 4000000 in
set_option maxRecDepth 100000 in
theorem t_X3_hasColumn_19 {p1 : Int} (X : CX p m c cX3_hasColumn 2 s args RX3 G B κ meth (some .boolean)) (hp1 : inR p1) {Qm : Int → Mem → Prop} : ∀ M : Mem, wp_X3_hasColumn_19 p1 Qm M → ∀ (H : Heap) (locs : List Loc), Rp G e0 α κ B M H → va_S (fun q => B ≤ q) s.heap H locs → ∀ (ls : Array Slot), lv_has ls 2 [] → WI p l e 1 s m args below meth c G e0 α κ B Qm H locs 19 ls [] := by
  intro M hw H locs hR hS ls hl
  have hw : Qm 0 M := hw
  refine sa_const X.1 dX3_hasColumn_19 ?_
  exact sa_zret X.1 X.2.2.2.1 X.2.2.2.2 hR hS (Or.inl rfl) hw dX3_hasColumn_20
set_option maxHeartbeats 4000000 in
set_option maxRecDepth 100000 in
theorem t_X3_hasColumn {p1 : Int} (X : CX p m c cX3_hasColumn 2 s args RX3 G B κ meth (some .boolean)) (hp1 : inR p1) {M : Mem} {Qm : Int → Mem → Prop} (hw : wp_X3_hasColumn p1 M Qm) (H : Heap) (locs : List Loc) (hR : Rp G e0 α κ B M H) (hS : va_S (fun q => B ≤ q) s.heap H locs) (ls : Array Slot) (hl : lv_has ls 2 [(0, .ref (α 4 0)), (1, .int (Int32.ofInt p1))]) : WI p l e 1 s m args below meth c G e0 α κ B Qm H locs 0 ls [] := by
  have hw : ((p1 < 0 → wp_X3_hasColumn_19 p1 Qm M) ∧ (0 ≤ p1 → (bit (if (M 12 0 (-1)) ≤ p1 then (0 : Int) else 1)) ∧ Qm (if (M 12 0 (-1)) ≤ p1 then (0 : Int) else 1) M)) := hw
  refine lv_iload_n X.1.1 X.1.2.1 dX3_hasColumn_0 rfl (lv_at hl 1 rfl) ?_
  refine sa_if_lt (tgt := 19) X.1 hp1 dX3_hasColumn_1 (by decide) (fun hc => ?_) (fun hc => ?_)
  · have hw := hw.1 hc
    exact t_X3_hasColumn_19 X hp1 _ hw _ _ hR hS _ (lv_sub hl [] rfl)
  · have hw := hw.2 hc
    refine lv_iload_n X.1.1 X.1.2.1 dX3_hasColumn_4 rfl (lv_at hl 1 rfl) ?_
    refine lv_aload_n X.1.1 X.1.2.1 dX3_hasColumn_5 rfl (lv_at hl 0 rfl) ?_
    refine gt_4_0 X hR (okf X.2.2.1 rfl) kw_112 dX3_hasColumn_6 ?_
    refine ls_size (by decide) (by decide) X (kc := 1) rmL_ok rm_c (by decide) hR hS kw_441 hl.1 dX3_hasColumn_9 (Nat.le_of_ble_eq_true rfl) (fun H locs hR hS => ?_)
    have r1 := hR.r 12 0 (-1)
    have r2 := inR_ite (c := (M 12 0 (-1)) ≤ p1) (inR_c (a := 0) rfl) (inR_c (a := 1) rfl)
    refine cut_j (A := ∀ v3 : Int, v3 = (if (M 12 0 (-1)) ≤ p1 then (0 : Int) else 1) → WI p l e 1 s m args below meth c G e0 α κ B Qm H locs 20 ls [.int (Int32.ofInt v3)]) (fun J4 => ?_) ?_
    · refine sa_icmp_ge (tgt := 19) X.1 hp1 r1 dX3_hasColumn_12 (by decide) (fun hc => ?_) (fun hc => ?_)
      · skip
        refine sa_const X.1 dX3_hasColumn_19 ?_
        exact J4 (0) (if_pos (c := (M 12 0 (-1)) ≤ p1) hc).symm
      · skip
        refine sa_const X.1 dX3_hasColumn_15 ?_
        refine lv_goto (tgt := 20) X.1.1 X.1.2.1 dX3_hasColumn_16 (by decide) ?_
        exact J4 (1) (if_neg (c := (M 12 0 (-1)) ≤ p1) (Int.not_le.mpr hc)).symm
    intro v3 hv3
    subst hv3
    have c5 := hw.1
    have hw := hw.2
    exact sa_zret X.1 X.2.2.2.1 X.2.2.2.2 hR hS c5 hw dX3_hasColumn_20
theorem m_X3_hasColumn {l : Launch} {G : Gx} {e0 : Nat} {α : Ax} {κ : Nat → Int} {B : Nat} {p1 : Int} (hκ : kOK κ) (hp1 : inR p1) {M : Mem} {Qm : Int → Mem → Prop} (hw : wp_X3_hasColumn p1 M Qm) : CI l yX3_hasColumn (Cond.code yX3_hasColumn cX3_hasColumn 2 (some .boolean)) 1 G e0 α κ B [.ref (α 4 0), .int (Int32.ofInt p1)] M Qm :=
  CI.mk hκ (by decide +kernel) rfl (Nat.le_of_ble_eq_true rfl) (lv := [(0, .ref (α 4 0)), (1, .int (Int32.ofInt p1))]) rfl (fun p e s m args below meth c ls X hR hS hl => t_X3_hasColumn X hp1 hw _ _ hR hS ls hl)
theorem cs_X3_hasColumn {cc : ByteArray} {nL : Nat} {own : String} {ret : Option FieldType} {idx pc : Nat} {p1 : Int} (X : CX p m c cc nL s args own G B κ meth ret) (hp1 : inR p1) {kc : Nat} {R : Room} {cells slots : Nat} (hRr : RmOK R kc) (hcel : cells ≤ R.cells ∧ slots ≤ R.slots) (hk : 1 + 1 ≤ kc) {M : Mem} {H : Heap} {locs : List Loc} (hR : Rp G e0 α κ B M H) (hS : va_S (fun q => B ≤ q) s.heap H locs) (k1 : Cond.methodLink own idx yX3_hasColumn ∈ gw) {ls : Array Slot} (hml : ls.size = nL) {rest : List Value} (hd : decode cc pc = .ok (.invokevirtual idx, 3)) (hrest : (rest.map fun v => v.category).sum ≤ 8) {Q : State → Prop} {Qm : Int → Mem → Prop} (hw : wp_X3_hasColumn p1 M Qm) (kk : ∀ (r : Int) (M1 : Mem) (H1 : Heap) (locs1 : List Loc), Qm r M1 → inR r → Rp G e0 α κ B M1 H1 → va_S (fun q => B ≤ q) s.heap H1 locs1 → W p l e R s m args below meth c H1 locs1 cells slots Q (F0 m (pc + 3) ls (.int (Int32.ofInt r) :: rest))) : W p l e R s m args below meth c H locs cells slots Q (F0 m pc ls (.int (Int32.ofInt p1) :: .ref (α 4 0) :: rest)) :=
  sa_callVI 1 (n := 1) (As := [.int (Int32.ofInt p1)]) (rest := rest) X.1 X.2.1 hR hS (m_X3_hasColumn X.2.2.1 hp1 hw) k1 kw_964 kw_965 kw_39 kw_966 ⟨rfl, by decide +kernel, by decide +kernel, by decide +kernel⟩ (rm_ok hRr hk (by decide)) (rc_4 X hR (okf X.2.2.1 rfl)) rfl rfl hrest hml hd hcel kk
def wp_X3_hasRow_19 (p1 : Int) (Qm : Int → Mem → Prop) (M : Mem) : Prop := Qm 0 M
def wp_X3_hasRow (p1 : Int) (M : Mem) (Qm : Int → Mem → Prop) : Prop := ((p1 < 0 → wp_X3_hasRow_19 p1 Qm M) ∧ (0 ≤ p1 → (bit (if (M 13 0 (-1)) ≤ p1 then (0 : Int) else 1)) ∧ Qm (if (M 13 0 (-1)) ≤ p1 then (0 : Int) else 1) M))
set_option maxHeartbeats 4000000 in
set_option maxRecDepth 100000 in
theorem t_X3_hasRow_19 {p1 : Int} (X : CX p m c cX3_hasRow 2 s args RX3 G B κ meth (some .boolean)) (hp1 : inR p1) {Qm : Int → Mem → Prop} : ∀ M : Mem, wp_X3_hasRow_19 p1 Qm M → ∀ (H : Heap) (locs : List Loc), Rp G e0 α κ B M H → va_S (fun q => B ≤ q) s.heap H locs → ∀ (ls : Array Slot), lv_has ls 2 [] → WI p l e 1 s m args below meth c G e0 α κ B Qm H locs 19 ls [] := by
  intro M hw H locs hR hS ls hl
  have hw : Qm 0 M := hw
  refine sa_const X.1 dX3_hasRow_19 ?_
  exact sa_zret X.1 X.2.2.2.1 X.2.2.2.2 hR hS (Or.inl rfl) hw dX3_hasRow_20
set_option maxHeartbeats 4000000 in
set_option maxRecDepth 100000 in
theorem t_X3_hasRow {p1 : Int} (X : CX p m c cX3_hasRow 2 s args RX3 G B κ meth (some .boolean)) (hp1 : inR p1) {M : Mem} {Qm : Int → Mem → Prop} (hw : wp_X3_hasRow p1 M Qm) (H : Heap) (locs : List Loc) (hR : Rp G e0 α κ B M H) (hS : va_S (fun q => B ≤ q) s.heap H locs) (ls : Array Slot) (hl : lv_has ls 2 [(0, .ref (α 4 0)), (1, .int (Int32.ofInt p1))]) : WI p l e 1 s m args below meth c G e0 α κ B Qm H locs 0 ls [] := by
  have hw : ((p1 < 0 → wp_X3_hasRow_19 p1 Qm M) ∧ (0 ≤ p1 → (bit (if (M 13 0 (-1)) ≤ p1 then (0 : Int) else 1)) ∧ Qm (if (M 13 0 (-1)) ≤ p1 then (0 : Int) else 1) M)) := hw
  refine lv_iload_n X.1.1 X.1.2.1 dX3_hasRow_0 rfl (lv_at hl 1 rfl) ?_
  refine sa_if_lt (tgt := 19) X.1 hp1 dX3_hasRow_1 (by decide) (fun hc => ?_) (fun hc => ?_)
  · have hw := hw.1 hc
    exact t_X3_hasRow_19 X hp1 _ hw _ _ hR hS _ (lv_sub hl [] rfl)
  · have hw := hw.2 hc
    refine lv_iload_n X.1.1 X.1.2.1 dX3_hasRow_4 rfl (lv_at hl 1 rfl) ?_
    refine lv_aload_n X.1.1 X.1.2.1 dX3_hasRow_5 rfl (lv_at hl 0 rfl) ?_
    refine gt_4_1 X hR (okf X.2.2.1 rfl) kw_115 dX3_hasRow_6 ?_
    refine ls_size (by decide) (by decide) X (kc := 1) rmL_ok rm_c (by decide) hR hS kw_441 hl.1 dX3_hasRow_9 (Nat.le_of_ble_eq_true rfl) (fun H locs hR hS => ?_)
    have r1 := hR.r 13 0 (-1)
    have r2 := inR_ite (c := (M 13 0 (-1)) ≤ p1) (inR_c (a := 0) rfl) (inR_c (a := 1) rfl)
    refine cut_j (A := ∀ v3 : Int, v3 = (if (M 13 0 (-1)) ≤ p1 then (0 : Int) else 1) → WI p l e 1 s m args below meth c G e0 α κ B Qm H locs 20 ls [.int (Int32.ofInt v3)]) (fun J4 => ?_) ?_
    · refine sa_icmp_ge (tgt := 19) X.1 hp1 r1 dX3_hasRow_12 (by decide) (fun hc => ?_) (fun hc => ?_)
      · skip
        refine sa_const X.1 dX3_hasRow_19 ?_
        exact J4 (0) (if_pos (c := (M 13 0 (-1)) ≤ p1) hc).symm
      · skip
        refine sa_const X.1 dX3_hasRow_15 ?_
        refine lv_goto (tgt := 20) X.1.1 X.1.2.1 dX3_hasRow_16 (by decide) ?_
        exact J4 (1) (if_neg (c := (M 13 0 (-1)) ≤ p1) (Int.not_le.mpr hc)).symm
    intro v3 hv3
    subst hv3
    have c5 := hw.1
    have hw := hw.2
    exact sa_zret X.1 X.2.2.2.1 X.2.2.2.2 hR hS c5 hw dX3_hasRow_20
theorem m_X3_hasRow {l : Launch} {G : Gx} {e0 : Nat} {α : Ax} {κ : Nat → Int} {B : Nat} {p1 : Int} (hκ : kOK κ) (hp1 : inR p1) {M : Mem} {Qm : Int → Mem → Prop} (hw : wp_X3_hasRow p1 M Qm) : CI l yX3_hasRow (Cond.code yX3_hasRow cX3_hasRow 2 (some .boolean)) 1 G e0 α κ B [.ref (α 4 0), .int (Int32.ofInt p1)] M Qm :=
  CI.mk hκ (by decide +kernel) rfl (Nat.le_of_ble_eq_true rfl) (lv := [(0, .ref (α 4 0)), (1, .int (Int32.ofInt p1))]) rfl (fun p e s m args below meth c ls X hR hS hl => t_X3_hasRow X hp1 hw _ _ hR hS ls hl)
theorem cs_X3_hasRow {cc : ByteArray} {nL : Nat} {own : String} {ret : Option FieldType} {idx pc : Nat} {p1 : Int} (X : CX p m c cc nL s args own G B κ meth ret) (hp1 : inR p1) {kc : Nat} {R : Room} {cells slots : Nat} (hRr : RmOK R kc) (hcel : cells ≤ R.cells ∧ slots ≤ R.slots) (hk : 1 + 1 ≤ kc) {M : Mem} {H : Heap} {locs : List Loc} (hR : Rp G e0 α κ B M H) (hS : va_S (fun q => B ≤ q) s.heap H locs) (k1 : Cond.methodLink own idx yX3_hasRow ∈ gw) {ls : Array Slot} (hml : ls.size = nL) {rest : List Value} (hd : decode cc pc = .ok (.invokevirtual idx, 3)) (hrest : (rest.map fun v => v.category).sum ≤ 8) {Q : State → Prop} {Qm : Int → Mem → Prop} (hw : wp_X3_hasRow p1 M Qm) (kk : ∀ (r : Int) (M1 : Mem) (H1 : Heap) (locs1 : List Loc), Qm r M1 → inR r → Rp G e0 α κ B M1 H1 → va_S (fun q => B ≤ q) s.heap H1 locs1 → W p l e R s m args below meth c H1 locs1 cells slots Q (F0 m (pc + 3) ls (.int (Int32.ofInt r) :: rest))) : W p l e R s m args below meth c H locs cells slots Q (F0 m pc ls (.int (Int32.ofInt p1) :: .ref (α 4 0) :: rest)) :=
  sa_callVI 1 (n := 1) (As := [.int (Int32.ofInt p1)]) (rest := rest) X.1 X.2.1 hR hS (m_X3_hasRow X.2.2.1 hp1 hw) k1 kw_640 kw_641 kw_39 kw_642 ⟨rfl, by decide +kernel, by decide +kernel, by decide +kernel⟩ (rm_ok hRr hk (by decide)) (rc_4 X hR (okf X.2.2.1 rfl)) rfl rfl hrest hml hd hcel kk
def wp_X3_hasCell_19 (p1 : Int) (Qm : Int → Mem → Prop) (M : Mem) : Prop := Qm 0 M
def wp_X3_hasCell (p1 : Int) (M : Mem) (Qm : Int → Mem → Prop) : Prop := ((p1 < 0 → wp_X3_hasCell_19 p1 Qm M) ∧ (0 ≤ p1 → (bit (if (M 14 0 (-1)) ≤ p1 then (0 : Int) else 1)) ∧ Qm (if (M 14 0 (-1)) ≤ p1 then (0 : Int) else 1) M))
set_option maxHeartbeats 4000000 in
set_option maxRecDepth 100000 in
theorem t_X3_hasCell_19 {p1 : Int} (X : CX p m c cX3_hasCell 2 s args RX3 G B κ meth (some .boolean)) (hp1 : inR p1) {Qm : Int → Mem → Prop} : ∀ M : Mem, wp_X3_hasCell_19 p1 Qm M → ∀ (H : Heap) (locs : List Loc), Rp G e0 α κ B M H → va_S (fun q => B ≤ q) s.heap H locs → ∀ (ls : Array Slot), lv_has ls 2 [] → WI p l e 1 s m args below meth c G e0 α κ B Qm H locs 19 ls [] := by
  intro M hw H locs hR hS ls hl
  have hw : Qm 0 M := hw
  refine sa_const X.1 dX3_hasCell_19 ?_
  exact sa_zret X.1 X.2.2.2.1 X.2.2.2.2 hR hS (Or.inl rfl) hw dX3_hasCell_20
set_option maxHeartbeats 4000000 in
set_option maxRecDepth 100000 in
theorem t_X3_hasCell {p1 : Int} (X : CX p m c cX3_hasCell 2 s args RX3 G B κ meth (some .boolean)) (hp1 : inR p1) {M : Mem} {Qm : Int → Mem → Prop} (hw : wp_X3_hasCell p1 M Qm) (H : Heap) (locs : List Loc) (hR : Rp G e0 α κ B M H) (hS : va_S (fun q => B ≤ q) s.heap H locs) (ls : Array Slot) (hl : lv_has ls 2 [(0, .ref (α 4 0)), (1, .int (Int32.ofInt p1))]) : WI p l e 1 s m args below meth c G e0 α κ B Qm H locs 0 ls [] := by
  have hw : ((p1 < 0 → wp_X3_hasCell_19 p1 Qm M) ∧ (0 ≤ p1 → (bit (if (M 14 0 (-1)) ≤ p1 then (0 : Int) else 1)) ∧ Qm (if (M 14 0 (-1)) ≤ p1 then (0 : Int) else 1) M)) := hw
  refine lv_iload_n X.1.1 X.1.2.1 dX3_hasCell_0 rfl (lv_at hl 1 rfl) ?_
  refine sa_if_lt (tgt := 19) X.1 hp1 dX3_hasCell_1 (by decide) (fun hc => ?_) (fun hc => ?_)
  · have hw := hw.1 hc
    exact t_X3_hasCell_19 X hp1 _ hw _ _ hR hS _ (lv_sub hl [] rfl)
  · have hw := hw.2 hc
    refine lv_iload_n X.1.1 X.1.2.1 dX3_hasCell_4 rfl (lv_at hl 1 rfl) ?_
    refine lv_aload_n X.1.1 X.1.2.1 dX3_hasCell_5 rfl (lv_at hl 0 rfl) ?_
    refine gt_4_2 X hR (okf X.2.2.1 rfl) kw_118 dX3_hasCell_6 ?_
    refine ls_size (by decide) (by decide) X (kc := 1) rmL_ok rm_c (by decide) hR hS kw_441 hl.1 dX3_hasCell_9 (Nat.le_of_ble_eq_true rfl) (fun H locs hR hS => ?_)
    have r1 := hR.r 14 0 (-1)
    have r2 := inR_ite (c := (M 14 0 (-1)) ≤ p1) (inR_c (a := 0) rfl) (inR_c (a := 1) rfl)
    refine cut_j (A := ∀ v3 : Int, v3 = (if (M 14 0 (-1)) ≤ p1 then (0 : Int) else 1) → WI p l e 1 s m args below meth c G e0 α κ B Qm H locs 20 ls [.int (Int32.ofInt v3)]) (fun J4 => ?_) ?_
    · refine sa_icmp_ge (tgt := 19) X.1 hp1 r1 dX3_hasCell_12 (by decide) (fun hc => ?_) (fun hc => ?_)
      · skip
        refine sa_const X.1 dX3_hasCell_19 ?_
        exact J4 (0) (if_pos (c := (M 14 0 (-1)) ≤ p1) hc).symm
      · skip
        refine sa_const X.1 dX3_hasCell_15 ?_
        refine lv_goto (tgt := 20) X.1.1 X.1.2.1 dX3_hasCell_16 (by decide) ?_
        exact J4 (1) (if_neg (c := (M 14 0 (-1)) ≤ p1) (Int.not_le.mpr hc)).symm
    intro v3 hv3
    subst hv3
    have c5 := hw.1
    have hw := hw.2
    exact sa_zret X.1 X.2.2.2.1 X.2.2.2.2 hR hS c5 hw dX3_hasCell_20
theorem m_X3_hasCell {l : Launch} {G : Gx} {e0 : Nat} {α : Ax} {κ : Nat → Int} {B : Nat} {p1 : Int} (hκ : kOK κ) (hp1 : inR p1) {M : Mem} {Qm : Int → Mem → Prop} (hw : wp_X3_hasCell p1 M Qm) : CI l yX3_hasCell (Cond.code yX3_hasCell cX3_hasCell 2 (some .boolean)) 1 G e0 α κ B [.ref (α 4 0), .int (Int32.ofInt p1)] M Qm :=
  CI.mk hκ (by decide +kernel) rfl (Nat.le_of_ble_eq_true rfl) (lv := [(0, .ref (α 4 0)), (1, .int (Int32.ofInt p1))]) rfl (fun p e s m args below meth c ls X hR hS hl => t_X3_hasCell X hp1 hw _ _ hR hS ls hl)
theorem cs_X3_hasCell {cc : ByteArray} {nL : Nat} {own : String} {ret : Option FieldType} {idx pc : Nat} {p1 : Int} (X : CX p m c cc nL s args own G B κ meth ret) (hp1 : inR p1) {kc : Nat} {R : Room} {cells slots : Nat} (hRr : RmOK R kc) (hcel : cells ≤ R.cells ∧ slots ≤ R.slots) (hk : 1 + 1 ≤ kc) {M : Mem} {H : Heap} {locs : List Loc} (hR : Rp G e0 α κ B M H) (hS : va_S (fun q => B ≤ q) s.heap H locs) (k1 : Cond.methodLink own idx yX3_hasCell ∈ gw) {ls : Array Slot} (hml : ls.size = nL) {rest : List Value} (hd : decode cc pc = .ok (.invokevirtual idx, 3)) (hrest : (rest.map fun v => v.category).sum ≤ 8) {Q : State → Prop} {Qm : Int → Mem → Prop} (hw : wp_X3_hasCell p1 M Qm) (kk : ∀ (r : Int) (M1 : Mem) (H1 : Heap) (locs1 : List Loc), Qm r M1 → inR r → Rp G e0 α κ B M1 H1 → va_S (fun q => B ≤ q) s.heap H1 locs1 → W p l e R s m args below meth c H1 locs1 cells slots Q (F0 m (pc + 3) ls (.int (Int32.ofInt r) :: rest))) : W p l e R s m args below meth c H locs cells slots Q (F0 m pc ls (.int (Int32.ofInt p1) :: .ref (α 4 0) :: rest)) :=
  sa_callVI 1 (n := 1) (As := [.int (Int32.ofInt p1)]) (rest := rest) X.1 X.2.1 hR hS (m_X3_hasCell X.2.2.1 hp1 hw) k1 kw_1082 kw_1083 kw_39 kw_1084 ⟨rfl, by decide +kernel, by decide +kernel, by decide +kernel⟩ (rm_ok hRr hk (by decide)) (rc_4 X hR (okf X.2.2.1 rfl)) rfl rfl hrest hml hd hcel kk
def wp_X3_isBodyRow_30 (p1 : Int) (Qm : Int → Mem → Prop) (M : Mem) : Prop := Qm 0 M
def wp_X3_isBodyRow (p1 : Int) (M : Mem) (Qm : Int → Mem → Prop) : Prop := wp_X3_hasRow p1 M fun (x2 : Int) (M1 : Mem) => ((x2 = 0 → wp_X3_isBodyRow_30 p1 Qm M1) ∧ (¬ x2 = 0 → (0 ≤ p1 ∧ p1 < M1 13 0 (-1)) ∧ (bit (if ¬ (M1 6 (M1 13 0 p1) 1) = 1 then (0 : Int) else 1)) ∧ Qm (if ¬ (M1 6 (M1 13 0 p1) 1) = 1 then (0 : Int) else 1) M1))
set_option maxHeartbeats 4000000 in
set_option maxRecDepth 100000 in
theorem t_X3_isBodyRow_30 {p1 : Int} (X : CX p m c cX3_isBodyRow 2 s args RX3 G B κ meth (some .boolean)) (hp1 : inR p1) {Qm : Int → Mem → Prop} : ∀ M : Mem, wp_X3_isBodyRow_30 p1 Qm M → ∀ (H : Heap) (locs : List Loc), Rp G e0 α κ B M H → va_S (fun q => B ≤ q) s.heap H locs → ∀ (ls : Array Slot), lv_has ls 2 [] → WI p l e 3 s m args below meth c G e0 α κ B Qm H locs 30 ls [] := by
  intro M hw H locs hR hS ls hl
  have hw : Qm 0 M := hw
  refine sa_const X.1 dX3_isBodyRow_30 ?_
  exact sa_zret X.1 X.2.2.2.1 X.2.2.2.2 hR hS (Or.inl rfl) hw dX3_isBodyRow_31
set_option maxHeartbeats 4000000 in
set_option maxRecDepth 100000 in
theorem t_X3_isBodyRow {p1 : Int} (X : CX p m c cX3_isBodyRow 2 s args RX3 G B κ meth (some .boolean)) (hp1 : inR p1) {M : Mem} {Qm : Int → Mem → Prop} (hw : wp_X3_isBodyRow p1 M Qm) (H : Heap) (locs : List Loc) (hR : Rp G e0 α κ B M H) (hS : va_S (fun q => B ≤ q) s.heap H locs) (ls : Array Slot) (hl : lv_has ls 2 [(0, .ref (α 4 0)), (1, .int (Int32.ofInt p1))]) : WI p l e 3 s m args below meth c G e0 α κ B Qm H locs 0 ls [] := by
  have hw : wp_X3_hasRow p1 M fun (x2 : Int) (M1 : Mem) => ((x2 = 0 → wp_X3_isBodyRow_30 p1 Qm M1) ∧ (¬ x2 = 0 → (0 ≤ p1 ∧ p1 < M1 13 0 (-1)) ∧ (bit (if ¬ (M1 6 (M1 13 0 p1) 1) = 1 then (0 : Int) else 1)) ∧ Qm (if ¬ (M1 6 (M1 13 0 p1) 1) = 1 then (0 : Int) else 1) M1)) := hw
  refine lv_aload_n X.1.1 X.1.2.1 dX3_isBodyRow_0 rfl (lv_at hl 0 rfl) ?_
  refine lv_iload_n X.1.1 X.1.2.1 dX3_isBodyRow_1 rfl (lv_at hl 1 rfl) ?_
  refine cs_X3_hasRow X hp1 (kc := 3) rmL_ok rm_c (by decide) hR hS kw_639 hl.1 dX3_isBodyRow_2 (Nat.le_of_ble_eq_true rfl) hw (fun x2 M1 H locs hw r3 hR hS => ?_)
  refine sa_if_eq (tgt := 30) X.1 r3 dX3_isBodyRow_5 (by decide) (fun hc => ?_) (fun hc => ?_)
  · have hw := hw.1 hc
    exact t_X3_isBodyRow_30 X hp1 _ hw _ _ hR hS _ (lv_sub hl [] rfl)
  · have hw := hw.2 hc
    refine lv_aload_n X.1.1 X.1.2.1 dX3_isBodyRow_8 rfl (lv_at hl 0 rfl) ?_
    refine gt_4_1 X hR (okf X.2.2.1 rfl) kw_115 dX3_isBodyRow_9 ?_
    refine lv_iload_n X.1.1 X.1.2.1 dX3_isBodyRow_12 rfl (lv_at hl 1 rfl) ?_
    have c4 := hw.1
    have hw := hw.2
    refine ls_get (ci := 6) (by decide) (by decide) rfl X c4 (kc := 3) rmL_ok rm_c (by decide) hR hS kw_442 hl.1 dX3_isBodyRow_13 (Nat.le_of_ble_eq_true rfl) (fun H locs o5 hR hS => ?_)
    refine ck_6 X hR o5 kw_580 dX3_isBodyRow_16 ?_
    refine gt_6_1 X hR o5 kw_893 dX3_isBodyRow_19 ?_
    have r6 := hR.r 6 (M1 13 0 p1) 1
    refine sa_const X.1 dX3_isBodyRow_22 ?_
    have r7 := inR_ite (c := ¬ (M1 6 (M1 13 0 p1) 1) = 1) (inR_c (a := 0) rfl) (inR_c (a := 1) rfl)
    refine cut_j (A := ∀ v8 : Int, v8 = (if ¬ (M1 6 (M1 13 0 p1) 1) = 1 then (0 : Int) else 1) → WI p l e 3 s m args below meth c G e0 α κ B Qm H locs 31 ls [.int (Int32.ofInt v8)]) (fun J9 => ?_) ?_
    · refine sa_icmp_ne (tgt := 30) X.1 r6 (inR_c (a := 1) rfl) dX3_isBodyRow_23 (by decide) (fun hc => ?_) (fun hc => ?_)
      · skip
        refine sa_const X.1 dX3_isBodyRow_30 ?_
        exact J9 (0) (if_pos (c := ¬ (M1 6 (M1 13 0 p1) 1) = 1) hc).symm
      · skip
        refine sa_const X.1 dX3_isBodyRow_26 ?_
        refine lv_goto (tgt := 31) X.1.1 X.1.2.1 dX3_isBodyRow_27 (by decide) ?_
        exact J9 (1) (if_neg (c := ¬ (M1 6 (M1 13 0 p1) 1) = 1) (fun z => z hc)).symm
    intro v8 hv8
    subst hv8
    have c10 := hw.1
    have hw := hw.2
    exact sa_zret X.1 X.2.2.2.1 X.2.2.2.2 hR hS c10 hw dX3_isBodyRow_31
theorem m_X3_isBodyRow {l : Launch} {G : Gx} {e0 : Nat} {α : Ax} {κ : Nat → Int} {B : Nat} {p1 : Int} (hκ : kOK κ) (hp1 : inR p1) {M : Mem} {Qm : Int → Mem → Prop} (hw : wp_X3_isBodyRow p1 M Qm) : CI l yX3_isBodyRow (Cond.code yX3_isBodyRow cX3_isBodyRow 2 (some .boolean)) 3 G e0 α κ B [.ref (α 4 0), .int (Int32.ofInt p1)] M Qm :=
  CI.mk hκ (by decide +kernel) rfl (Nat.le_of_ble_eq_true rfl) (lv := [(0, .ref (α 4 0)), (1, .int (Int32.ofInt p1))]) rfl (fun p e s m args below meth c ls X hR hS hl => t_X3_isBodyRow X hp1 hw _ _ hR hS ls hl)
theorem cs_X3_isBodyRow {cc : ByteArray} {nL : Nat} {own : String} {ret : Option FieldType} {idx pc : Nat} {p1 : Int} (X : CX p m c cc nL s args own G B κ meth ret) (hp1 : inR p1) {kc : Nat} {R : Room} {cells slots : Nat} (hRr : RmOK R kc) (hcel : cells ≤ R.cells ∧ slots ≤ R.slots) (hk : 3 + 1 ≤ kc) {M : Mem} {H : Heap} {locs : List Loc} (hR : Rp G e0 α κ B M H) (hS : va_S (fun q => B ≤ q) s.heap H locs) (k1 : Cond.methodLink own idx yX3_isBodyRow ∈ gw) {ls : Array Slot} (hml : ls.size = nL) {rest : List Value} (hd : decode cc pc = .ok (.invokevirtual idx, 3)) (hrest : (rest.map fun v => v.category).sum ≤ 8) {Q : State → Prop} {Qm : Int → Mem → Prop} (hw : wp_X3_isBodyRow p1 M Qm) (kk : ∀ (r : Int) (M1 : Mem) (H1 : Heap) (locs1 : List Loc), Qm r M1 → inR r → Rp G e0 α κ B M1 H1 → va_S (fun q => B ≤ q) s.heap H1 locs1 → W p l e R s m args below meth c H1 locs1 cells slots Q (F0 m (pc + 3) ls (.int (Int32.ofInt r) :: rest))) : W p l e R s m args below meth c H locs cells slots Q (F0 m pc ls (.int (Int32.ofInt p1) :: .ref (α 4 0) :: rest)) :=
  sa_callVI 3 (n := 1) (As := [.int (Int32.ofInt p1)]) (rest := rest) X.1 X.2.1 hR hS (m_X3_isBodyRow X.2.2.1 hp1 hw) k1 kw_636 kw_637 kw_39 kw_638 ⟨rfl, by decide +kernel, by decide +kernel, by decide +kernel⟩ (rm_ok hRr hk (by decide)) (rc_4 X hR (okf X.2.2.1 rfl)) rfl rfl hrest hml hd hcel kk
def wp_X3_isFull_25 (p1 : Int) (Qm : Int → Mem → Prop) (M : Mem) : Prop := Qm 1 M
def wp_X3_isFull (p1 : Int) (M : Mem) (Qm : Int → Mem → Prop) : Prop := ((p1 < 0 → wp_X3_isFull_25 p1 Qm M) ∧ (0 ≤ p1 → ((2 < p1 → wp_X3_isFull_25 p1 Qm M) ∧ (p1 ≤ 2 → (0 ≤ p1 ∧ p1 < 3) ∧ (bit (if (M (rowL p1) 0 (-1)) < (mrpI p1) then (0 : Int) else 1)) ∧ Qm (if (M (rowL p1) 0 (-1)) < (mrpI p1) then (0 : Int) else 1) M))))
set_option maxHeartbeats 4000000 in
set_option maxRecDepth 100000 in
theorem t_X3_isFull_25 {p1 : Int} (X : CX p m c cX3_isFull 2 s args RX3 G B κ meth (some .boolean)) (hp1 : inR p1) {Qm : Int → Mem → Prop} : ∀ M : Mem, wp_X3_isFull_25 p1 Qm M → ∀ (H : Heap) (locs : List Loc), Rp G e0 α κ B M H → va_S (fun q => B ≤ q) s.heap H locs → ∀ (ls : Array Slot), lv_has ls 2 [] → WI p l e 1 s m args below meth c G e0 α κ B Qm H locs 25 ls [] := by
  intro M hw H locs hR hS ls hl
  have hw : Qm 1 M := hw
  refine sa_const X.1 dX3_isFull_25 ?_
  refine lv_goto (tgt := 30) X.1.1 X.1.2.1 dX3_isFull_26 (by decide) ?_
  exact sa_zret X.1 X.2.2.2.1 X.2.2.2.2 hR hS (Or.inr rfl) hw dX3_isFull_30
set_option maxHeartbeats 4000000 in
set_option maxRecDepth 100000 in
theorem t_X3_isFull {p1 : Int} (X : CX p m c cX3_isFull 2 s args RX3 G B κ meth (some .boolean)) (hp1 : inR p1) {M : Mem} {Qm : Int → Mem → Prop} (hw : wp_X3_isFull p1 M Qm) (H : Heap) (locs : List Loc) (hR : Rp G e0 α κ B M H) (hS : va_S (fun q => B ≤ q) s.heap H locs) (ls : Array Slot) (hl : lv_has ls 2 [(0, .ref (α 4 0)), (1, .int (Int32.ofInt p1))]) : WI p l e 1 s m args below meth c G e0 α κ B Qm H locs 0 ls [] := by
  have hw : ((p1 < 0 → wp_X3_isFull_25 p1 Qm M) ∧ (0 ≤ p1 → ((2 < p1 → wp_X3_isFull_25 p1 Qm M) ∧ (p1 ≤ 2 → (0 ≤ p1 ∧ p1 < 3) ∧ (bit (if (M (rowL p1) 0 (-1)) < (mrpI p1) then (0 : Int) else 1)) ∧ Qm (if (M (rowL p1) 0 (-1)) < (mrpI p1) then (0 : Int) else 1) M)))) := hw
  refine lv_iload_n X.1.1 X.1.2.1 dX3_isFull_0 rfl (lv_at hl 1 rfl) ?_
  refine sa_if_lt (tgt := 25) X.1 hp1 dX3_isFull_1 (by decide) (fun hc => ?_) (fun hc => ?_)
  · have hw := hw.1 hc
    exact t_X3_isFull_25 X hp1 _ hw _ _ hR hS _ (lv_sub hl [] rfl)
  · have hw := hw.2 hc
    refine lv_iload_n X.1.1 X.1.2.1 dX3_isFull_4 rfl (lv_at hl 1 rfl) ?_
    refine sa_const X.1 dX3_isFull_5 ?_
    refine sa_icmp_gt (tgt := 25) X.1 hp1 (inR_c (a := 2) rfl) dX3_isFull_6 (by decide) (fun hc => ?_) (fun hc => ?_)
    · have hw := hw.1 hc
      exact t_X3_isFull_25 X hp1 _ hw _ _ hR hS _ (lv_sub hl [] rfl)
    · have hw := hw.2 hc
      refine lv_aload_n X.1.1 X.1.2.1 dX3_isFull_9 rfl (lv_at hl 0 rfl) ?_
      refine lv_iload_n X.1.1 X.1.2.1 dX3_isFull_10 rfl (lv_at hl 1 rfl) ?_
      refine cs_rowsOf X hp1 (kc := 1) rmL_ok rm_c (by decide) hR hS kw_872 hl.1 dX3_isFull_11 (Nat.le_of_ble_eq_true rfl) (fun H locs hR hS => ?_)
      refine ls_size (Nat.le_trans (by decide) (rowL_ok p1).1) (rowL_ok p1).2 X (kc := 1) rmL_ok rm_c (by decide) hR hS kw_441 hl.1 dX3_isFull_14 (Nat.le_of_ble_eq_true rfl) (fun H locs hR hS => ?_)
      have r1 := hR.r (rowL p1) 0 (-1)
      refine gs_mrp X hS kn_873 dX3_isFull_17 (fun t2 ht2 => ?_)
      refine lv_iload_n X.1.1 X.1.2.1 dX3_isFull_20 rfl (lv_at hl 1 rfl) ?_
      have c3 := hw.1
      have hw := hw.2
      refine sa_mrp X hS t2 ht2 c3 dX3_isFull_21 ?_
      have r4 := inR_ite (c := (M (rowL p1) 0 (-1)) < (mrpI p1)) (inR_c (a := 0) rfl) (inR_c (a := 1) rfl)
      refine cut_j (A := ∀ v5 : Int, v5 = (if (M (rowL p1) 0 (-1)) < (mrpI p1) then (0 : Int) else 1) → WI p l e 1 s m args below meth c G e0 α κ B Qm H locs 30 ls [.int (Int32.ofInt v5)]) (fun J6 => ?_) ?_
      · refine sa_icmp_lt (tgt := 29) X.1 r1 (mrpI_R _) dX3_isFull_22 (by decide) (fun hc => ?_) (fun hc => ?_)
        · skip
          refine sa_const X.1 dX3_isFull_29 ?_
          exact J6 (0) (if_pos (c := (M (rowL p1) 0 (-1)) < (mrpI p1)) hc).symm
        · skip
          refine sa_const X.1 dX3_isFull_25 ?_
          refine lv_goto (tgt := 30) X.1.1 X.1.2.1 dX3_isFull_26 (by decide) ?_
          exact J6 (1) (if_neg (c := (M (rowL p1) 0 (-1)) < (mrpI p1)) (Int.not_lt.mpr hc)).symm
      intro v5 hv5
      subst hv5
      have c7 := hw.1
      have hw := hw.2
      exact sa_zret X.1 X.2.2.2.1 X.2.2.2.2 hR hS c7 hw dX3_isFull_30
theorem m_X3_isFull {l : Launch} {G : Gx} {e0 : Nat} {α : Ax} {κ : Nat → Int} {B : Nat} {p1 : Int} (hκ : kOK κ) (hp1 : inR p1) {M : Mem} {Qm : Int → Mem → Prop} (hw : wp_X3_isFull p1 M Qm) : CI l yX3_isFull (Cond.code yX3_isFull cX3_isFull 2 (some .boolean)) 1 G e0 α κ B [.ref (α 4 0), .int (Int32.ofInt p1)] M Qm :=
  CI.mk hκ (by decide +kernel) rfl (Nat.le_of_ble_eq_true rfl) (lv := [(0, .ref (α 4 0)), (1, .int (Int32.ofInt p1))]) rfl (fun p e s m args below meth c ls X hR hS hl => t_X3_isFull X hp1 hw _ _ hR hS ls hl)
theorem cs_X3_isFull {cc : ByteArray} {nL : Nat} {own : String} {ret : Option FieldType} {idx pc : Nat} {p1 : Int} (X : CX p m c cc nL s args own G B κ meth ret) (hp1 : inR p1) {kc : Nat} {R : Room} {cells slots : Nat} (hRr : RmOK R kc) (hcel : cells ≤ R.cells ∧ slots ≤ R.slots) (hk : 1 + 1 ≤ kc) {M : Mem} {H : Heap} {locs : List Loc} (hR : Rp G e0 α κ B M H) (hS : va_S (fun q => B ≤ q) s.heap H locs) (k1 : Cond.methodLink own idx yX3_isFull ∈ gw) {ls : Array Slot} (hml : ls.size = nL) {rest : List Value} (hd : decode cc pc = .ok (.invokevirtual idx, 3)) (hrest : (rest.map fun v => v.category).sum ≤ 8) {Q : State → Prop} {Qm : Int → Mem → Prop} (hw : wp_X3_isFull p1 M Qm) (kk : ∀ (r : Int) (M1 : Mem) (H1 : Heap) (locs1 : List Loc), Qm r M1 → inR r → Rp G e0 α κ B M1 H1 → va_S (fun q => B ≤ q) s.heap H1 locs1 → W p l e R s m args below meth c H1 locs1 cells slots Q (F0 m (pc + 3) ls (.int (Int32.ofInt r) :: rest))) : W p l e R s m args below meth c H locs cells slots Q (F0 m pc ls (.int (Int32.ofInt p1) :: .ref (α 4 0) :: rest)) :=
  sa_callVI 1 (n := 1) (As := [.int (Int32.ofInt p1)]) (rest := rest) X.1 X.2.1 hR hS (m_X3_isFull X.2.2.1 hp1 hw) k1 kw_869 kw_870 kw_39 kw_871 ⟨rfl, by decide +kernel, by decide +kernel, by decide +kernel⟩ (rm_ok hRr hk (by decide)) (rc_4 X hR (okf X.2.2.1 rfl)) rfl rfl hrest hml hd hcel kk
def wp_X3_hasFreePlaces_46 (u1 : Int) (p2 : Int) (p3 : Int) (p4 : Int) (Qm : Int → Mem → Prop) (M : Mem) : Prop := Qm 0 M
def wp_X3_hasFreePlaces_64 (u1 : Int) (p2 : Int) (p3 : Int) (p4 : Int) (Qm : Int → Mem → Prop) (K54 : Nat → Int → Int → Int → Mem → Prop) : Nat → Nat → Int → Int → Int → Int → Mem → Prop
  | 0 => fun _ _ _ _ _ _ => False
  | n + 1 => fun q5 y6 y7 y8 y9 M => ((y7 ≤ y9 → (inR (y8 + 1)) ∧ K54 q5 y6 y7 (y8 + 1) M) ∧ (y9 < y7 → (0 ≤ y8 ∧ y8 < M q5 0 (-1)) ∧ (0 ≤ y9 ∧ y9 < 6) ∧ (((M 37 (M q5 0 y8) y9) = (-1) → (inR (y9 + 1)) ∧ wp_X3_hasFreePlaces_64 u1 p2 p3 p4 Qm K54 n q5 y6 y7 y8 (y9 + 1) M) ∧ (¬ (M 37 (M q5 0 y8) y9) = (-1) → Qm 0 M))))
def wp_X3_hasFreePlaces_54 (u1 : Int) (p2 : Int) (p3 : Int) (p4 : Int) (Qm : Int → Mem → Prop) : Nat → Nat → Int → Int → Int → Mem → Prop
  | 0 => fun _ _ _ _ _ => False
  | n + 1 => fun q5 y6 y7 y8 M => ((y6 ≤ y8 → Qm 1 M) ∧ (y8 < y6 → (∃ n14 : Nat, wp_X3_hasFreePlaces_64 u1 p2 p3 p4 Qm (wp_X3_hasFreePlaces_54 u1 p2 p3 p4 Qm n) n14 q5 y6 y7 y8 p2 M)))
def wp_X3_hasFreePlaces (u1 : Int) (p2 : Int) (p3 : Int) (p4 : Int) (M : Mem) (Qm : Int → Mem → Prop) : Prop := (inR ((M 6 u1 6) + p3)) ∧ (inR (p2 + p4)) ∧ (((M (rowL (M 6 u1 1)) 0 (-1)) < ((M 6 u1 6) + p3) → wp_X3_hasFreePlaces_46 u1 p2 p3 p4 Qm M) ∧ (((M 6 u1 6) + p3) ≤ (M (rowL (M 6 u1 1)) 0 (-1)) → (((p2 + p4) ≤ (M 12 0 (-1)) → (∃ n15 : Nat, wp_X3_hasFreePlaces_54 u1 p2 p3 p4 Qm n15 (rowL (M 6 u1 1)) ((M 6 u1 6) + p3) (p2 + p4) (M 6 u1 6) M)) ∧ ((M 12 0 (-1)) < (p2 + p4) → wp_X3_hasFreePlaces_46 u1 p2 p3 p4 Qm M))))
set_option maxHeartbeats 4000000 in
set_option maxRecDepth 100000 in
theorem t_X3_hasFreePlaces_46 {u1 : Int} {p2 : Int} {p3 : Int} {p4 : Int} (X : CX p m c cX3_hasFreePlaces 10 s args RX3 G B κ meth (some .boolean)) (hu1 : okk κ 6 u1) (hp2 : inR p2) (hp3 : inR p3) (hp4 : inR p4) {Qm : Int → Mem → Prop} : ∀ M : Mem, wp_X3_hasFreePlaces_46 u1 p2 p3 p4 Qm M → ∀ (H : Heap) (locs : List Loc), Rp G e0 α κ B M H → va_S (fun q => B ≤ q) s.heap H locs → ∀ (ls : Array Slot), lv_has ls 10 [] → WI p l e 3 s m args below meth c G e0 α κ B Qm H locs 46 ls [] := by
  intro M hw H locs hR hS ls hl
  have hw : Qm 0 M := hw
  refine sa_const X.1 dX3_hasFreePlaces_46 ?_
  exact sa_zret X.1 X.2.2.2.1 X.2.2.2.2 hR hS (Or.inl rfl) hw dX3_hasFreePlaces_47
set_option maxHeartbeats 4000000 in
set_option maxRecDepth 100000 in
theorem t_X3_hasFreePlaces_64 {u1 : Int} {p2 : Int} {p3 : Int} {p4 : Int} (X : CX p m c cX3_hasFreePlaces 10 s args RX3 G B κ meth (some .boolean)) (hu1 : okk κ 6 u1) (hp2 : inR p2) (hp3 : inR p3) (hp4 : inR p4) {Qm : Int → Mem → Prop} {K54 : Nat → Int → Int → Int → Mem → Prop} (hK54 : ∀ q5 : Nat, ∀ y6 : Int, ∀ y7 : Int, ∀ y8 : Int, ∀ M : Mem, K54 q5 y6 y7 y8 M → RLs q5 → inR y6 → inR y7 → inR y8 → ∀ (H : Heap) (locs : List Loc), Rp G e0 α κ B M H → va_S (fun q => B ≤ q) s.heap H locs → ∀ (ls : Array Slot), lv_has ls 10 [(2, .int (Int32.ofInt p2)), (5, .ref (α q5 0)), (6, .int (Int32.ofInt y6)), (7, .int (Int32.ofInt y7)), (8, .int (Int32.ofInt y8))] → WI p l e 3 s m args below meth c G e0 α κ B Qm H locs 54 ls []) : ∀ n : Nat, ∀ q5 : Nat, ∀ y6 : Int, ∀ y7 : Int, ∀ y8 : Int, ∀ y9 : Int, ∀ M : Mem, wp_X3_hasFreePlaces_64 u1 p2 p3 p4 Qm K54 n q5 y6 y7 y8 y9 M → RLs q5 → inR y6 → inR y7 → inR y8 → inR y9 → ∀ (H : Heap) (locs : List Loc), Rp G e0 α κ B M H → va_S (fun q => B ≤ q) s.heap H locs → ∀ (ls : Array Slot), lv_has ls 10 [(2, .int (Int32.ofInt p2)), (5, .ref (α q5 0)), (6, .int (Int32.ofInt y6)), (7, .int (Int32.ofInt y7)), (8, .int (Int32.ofInt y8)), (9, .int (Int32.ofInt y9))] → WI p l e 3 s m args below meth c G e0 α κ B Qm H locs 64 ls [] := by
  intro n
  induction n with
  | zero =>
    intro q5 y6 y7 y8 y9 M hw hq5 hy6 hy7 hy8 hy9 H locs hR hS ls hl
    exact hw.elim
  | succ n ih =>
    intro q5 y6 y7 y8 y9 M hw hq5 hy6 hy7 hy8 hy9 H locs hR hS ls hl
    have hw : ((y7 ≤ y9 → (inR (y8 + 1)) ∧ K54 q5 y6 y7 (y8 + 1) M) ∧ (y9 < y7 → (0 ≤ y8 ∧ y8 < M q5 0 (-1)) ∧ (0 ≤ y9 ∧ y9 < 6) ∧ (((M 37 (M q5 0 y8) y9) = (-1) → (inR (y9 + 1)) ∧ wp_X3_hasFreePlaces_64 u1 p2 p3 p4 Qm K54 n q5 y6 y7 y8 (y9 + 1) M) ∧ (¬ (M 37 (M q5 0 y8) y9) = (-1) → Qm 0 M)))) := hw
    refine lv_iload X.1.1 X.1.2.1 dX3_hasFreePlaces_64 (lv_at hl 5 rfl) ?_
    refine lv_iload X.1.1 X.1.2.1 dX3_hasFreePlaces_66 (lv_at hl 3 rfl) ?_
    refine sa_icmp_ge (tgt := 99) X.1 hy9 hy7 dX3_hasFreePlaces_68 (by decide) (fun hc => ?_) (fun hc => ?_)
    · have hw := hw.1 hc
      have c8 := hw.1
      have hw := hw.2
      refine lv_iinc (v := Int32.ofInt (y8 + 1)) (lv' := [(8, .int (Int32.ofInt (y8 + 1))), (2, .int (Int32.ofInt p2)), (5, .ref (α q5 0)), (6, .int (Int32.ofInt y6)), (7, .int (Int32.ofInt y7)), (9, .int (Int32.ofInt y9))]) X.1.1 X.1.2.1 dX3_hasFreePlaces_99 hl (k := 4) rfl (Int32.ofInt_add _ _).symm (by decide) rfl (fun ls hl => ?_)
      refine lv_goto (tgt := 54) X.1.1 X.1.2.1 dX3_hasFreePlaces_102 (by decide) ?_
      exact hK54 _ _ _ _ _ hw hq5 hy6 hy7 c8 _ _ hR hS _ (lv_sub hl [1, 2, 3, 4, 0] rfl)
    · have hw := hw.2 hc
      refine lv_aload X.1.1 X.1.2.1 dX3_hasFreePlaces_71 (lv_at hl 1 rfl) ?_
      refine lv_iload X.1.1 X.1.2.1 dX3_hasFreePlaces_73 (lv_at hl 4 rfl) ?_
      have c9 := hw.1
      have hw := hw.2
      refine ls_get (ci := 6) (Nat.le_trans (by decide) hq5.1) hq5.2 (RLs.lcl hq5) X c9 (kc := 3) rmL_ok rm_c (by decide) hR hS kw_442 hl.1 dX3_hasFreePlaces_75 (Nat.le_of_ble_eq_true rfl) (fun H locs o10 hR hS => ?_)
      refine ck_6 X hR o10 kw_580 dX3_hasFreePlaces_78 ?_
      refine gt_6_5 X hR o10 kw_903 dX3_hasFreePlaces_81 ?_
      refine lv_iload X.1.1 X.1.2.1 dX3_hasFreePlaces_84 (lv_at hl 5 rfl) ?_
      have c11 := hw.1
      have hw := hw.2
      refine ra_37 X hR (ok4 X.2.2.1 rfl o10) c11 dX3_hasFreePlaces_86 ?_
      have r12 := hR.r 37 (M q5 0 y8) y9
      refine sa_const X.1 dX3_hasFreePlaces_87 ?_
      refine sa_icmp_eq (tgt := 93) X.1 r12 (inR_c (a := -1) rfl) dX3_hasFreePlaces_88 (by decide) (fun hc => ?_) (fun hc => ?_)
      · have hw := hw.1 hc
        have c13 := hw.1
        have hw := hw.2
        refine lv_iinc (v := Int32.ofInt (y9 + 1)) (lv' := [(9, .int (Int32.ofInt (y9 + 1))), (2, .int (Int32.ofInt p2)), (5, .ref (α q5 0)), (6, .int (Int32.ofInt y6)), (7, .int (Int32.ofInt y7)), (8, .int (Int32.ofInt y8))]) X.1.1 X.1.2.1 dX3_hasFreePlaces_93 hl (k := 5) rfl (Int32.ofInt_add _ _).symm (by decide) rfl (fun ls hl => ?_)
        refine lv_goto (tgt := 64) X.1.1 X.1.2.1 dX3_hasFreePlaces_96 (by decide) ?_
        exact ih _ _ _ _ _ _ hw hq5 hy6 hy7 hy8 c13 _ _ hR hS _ (lv_sub hl [1, 2, 3, 4, 5, 0] rfl)
      · have hw := hw.2 hc
        refine sa_const X.1 dX3_hasFreePlaces_91 ?_
        exact sa_zret X.1 X.2.2.2.1 X.2.2.2.2 hR hS (Or.inl rfl) hw dX3_hasFreePlaces_92
set_option maxHeartbeats 4000000 in
set_option maxRecDepth 100000 in
theorem t_X3_hasFreePlaces_54 {u1 : Int} {p2 : Int} {p3 : Int} {p4 : Int} (X : CX p m c cX3_hasFreePlaces 10 s args RX3 G B κ meth (some .boolean)) (hu1 : okk κ 6 u1) (hp2 : inR p2) (hp3 : inR p3) (hp4 : inR p4) {Qm : Int → Mem → Prop} : ∀ n : Nat, ∀ q5 : Nat, ∀ y6 : Int, ∀ y7 : Int, ∀ y8 : Int, ∀ M : Mem, wp_X3_hasFreePlaces_54 u1 p2 p3 p4 Qm n q5 y6 y7 y8 M → RLs q5 → inR y6 → inR y7 → inR y8 → ∀ (H : Heap) (locs : List Loc), Rp G e0 α κ B M H → va_S (fun q => B ≤ q) s.heap H locs → ∀ (ls : Array Slot), lv_has ls 10 [(2, .int (Int32.ofInt p2)), (5, .ref (α q5 0)), (6, .int (Int32.ofInt y6)), (7, .int (Int32.ofInt y7)), (8, .int (Int32.ofInt y8))] → WI p l e 3 s m args below meth c G e0 α κ B Qm H locs 54 ls [] := by
  intro n
  induction n with
  | zero =>
    intro q5 y6 y7 y8 M hw hq5 hy6 hy7 hy8 H locs hR hS ls hl
    exact hw.elim
  | succ n ih =>
    intro q5 y6 y7 y8 M hw hq5 hy6 hy7 hy8 H locs hR hS ls hl
    have hw : ((y6 ≤ y8 → Qm 1 M) ∧ (y8 < y6 → (∃ n14 : Nat, wp_X3_hasFreePlaces_64 u1 p2 p3 p4 Qm (wp_X3_hasFreePlaces_54 u1 p2 p3 p4 Qm n) n14 q5 y6 y7 y8 p2 M))) := hw
    refine lv_iload X.1.1 X.1.2.1 dX3_hasFreePlaces_54 (lv_at hl 4 rfl) ?_
    refine lv_iload X.1.1 X.1.2.1 dX3_hasFreePlaces_56 (lv_at hl 2 rfl) ?_
    refine sa_icmp_ge (tgt := 105) X.1 hy8 hy6 dX3_hasFreePlaces_58 (by decide) (fun hc => ?_) (fun hc => ?_)
    · have hw := hw.1 hc
      refine sa_const X.1 dX3_hasFreePlaces_105 ?_
      exact sa_zret X.1 X.2.2.2.1 X.2.2.2.2 hR hS (Or.inr rfl) hw dX3_hasFreePlaces_106
    · have hw := hw.2 hc
      refine lv_iload_n X.1.1 X.1.2.1 dX3_hasFreePlaces_61 rfl (lv_at hl 0 rfl) ?_
      refine lv_istore (lv' := [(9, .int (Int32.ofInt p2)), (2, .int (Int32.ofInt p2)), (5, .ref (α q5 0)), (6, .int (Int32.ofInt y6)), (7, .int (Int32.ofInt y7)), (8, .int (Int32.ofInt y8))]) X.1.1 X.1.2.1 dX3_hasFreePlaces_62 hl (by decide) rfl (fun ls hl => ?_)
      obtain ⟨n14, hw⟩ := hw
      exact t_X3_hasFreePlaces_64 X hu1 hp2 hp3 hp4 ih n14 _ _ _ _ _ _ hw hq5 hy6 hy7 hy8 hp2 _ _ hR hS _ (lv_sub hl [1, 2, 3, 4, 5, 0] rfl)
set_option maxHeartbeats 4000000 in
set_option maxRecDepth 100000 in
theorem t_X3_hasFreePlaces {u1 : Int} {p2 : Int} {p3 : Int} {p4 : Int} (X : CX p m c cX3_hasFreePlaces 10 s args RX3 G B κ meth (some .boolean)) (hu1 : okk κ 6 u1) (hp2 : inR p2) (hp3 : inR p3) (hp4 : inR p4) {M : Mem} {Qm : Int → Mem → Prop} (hw : wp_X3_hasFreePlaces u1 p2 p3 p4 M Qm) (H : Heap) (locs : List Loc) (hR : Rp G e0 α κ B M H) (hS : va_S (fun q => B ≤ q) s.heap H locs) (ls : Array Slot) (hl : lv_has ls 10 [(0, .ref (α 4 0)), (1, .ref (α 6 u1)), (2, .int (Int32.ofInt p2)), (3, .int (Int32.ofInt p3)), (4, .int (Int32.ofInt p4))]) : WI p l e 3 s m args below meth c G e0 α κ B Qm H locs 0 ls [] := by
  have hw : (inR ((M 6 u1 6) + p3)) ∧ (inR (p2 + p4)) ∧ (((M (rowL (M 6 u1 1)) 0 (-1)) < ((M 6 u1 6) + p3) → wp_X3_hasFreePlaces_46 u1 p2 p3 p4 Qm M) ∧ (((M 6 u1 6) + p3) ≤ (M (rowL (M 6 u1 1)) 0 (-1)) → (((p2 + p4) ≤ (M 12 0 (-1)) → (∃ n15 : Nat, wp_X3_hasFreePlaces_54 u1 p2 p3 p4 Qm n15 (rowL (M 6 u1 1)) ((M 6 u1 6) + p3) (p2 + p4) (M 6 u1 6) M)) ∧ ((M 12 0 (-1)) < (p2 + p4) → wp_X3_hasFreePlaces_46 u1 p2 p3 p4 Qm M)))) := hw
  refine lv_aload_n X.1.1 X.1.2.1 dX3_hasFreePlaces_0 rfl (lv_at hl 0 rfl) ?_
  refine lv_aload_n X.1.1 X.1.2.1 dX3_hasFreePlaces_1 rfl (lv_at hl 1 rfl) ?_
  refine gt_6_1 X hR hu1 kw_893 dX3_hasFreePlaces_2 ?_
  have r1 := hR.r 6 u1 1
  refine cs_rowsOf X r1 (kc := 3) rmL_ok rm_c (by decide) hR hS kw_872 hl.1 dX3_hasFreePlaces_5 (Nat.le_of_ble_eq_true rfl) (fun H locs hR hS => ?_)
  refine lv_astore (lv' := [(5, .ref (α (rowL (M 6 u1 1)) 0)), (0, .ref (α 4 0)), (1, .ref (α 6 u1)), (2, .int (Int32.ofInt p2)), (3, .int (Int32.ofInt p3)), (4, .int (Int32.ofInt p4))]) X.1.1 X.1.2.1 dX3_hasFreePlaces_8 hl (by decide) rfl (fun ls hl => ?_)
  refine lv_aload_n X.1.1 X.1.2.1 dX3_hasFreePlaces_10 rfl (lv_at hl 2 rfl) ?_
  refine gt_6_6 X hR hu1 kw_905 dX3_hasFreePlaces_11 ?_
  have r2 := hR.r 6 u1 6
  refine lv_iload_n X.1.1 X.1.2.1 dX3_hasFreePlaces_14 rfl (lv_at hl 4 rfl) ?_
  have c3 := hw.1
  have hw := hw.2
  refine sa_iadd X.1 dX3_hasFreePlaces_15 ?_
  refine lv_istore (lv' := [(6, .int (Int32.ofInt ((M 6 u1 6) + p3))), (5, .ref (α (rowL (M 6 u1 1)) 0)), (0, .ref (α 4 0)), (1, .ref (α 6 u1)), (2, .int (Int32.ofInt p2)), (3, .int (Int32.ofInt p3)), (4, .int (Int32.ofInt p4))]) X.1.1 X.1.2.1 dX3_hasFreePlaces_16 hl (by decide) rfl (fun ls hl => ?_)
  refine lv_iload_n X.1.1 X.1.2.1 dX3_hasFreePlaces_18 rfl (lv_at hl 4 rfl) ?_
  refine lv_iload X.1.1 X.1.2.1 dX3_hasFreePlaces_19 (lv_at hl 6 rfl) ?_
  have c4 := hw.1
  have hw := hw.2
  refine sa_iadd X.1 dX3_hasFreePlaces_21 ?_
  refine lv_istore (lv' := [(7, .int (Int32.ofInt (p2 + p4))), (6, .int (Int32.ofInt ((M 6 u1 6) + p3))), (5, .ref (α (rowL (M 6 u1 1)) 0)), (0, .ref (α 4 0)), (1, .ref (α 6 u1)), (2, .int (Int32.ofInt p2)), (3, .int (Int32.ofInt p3)), (4, .int (Int32.ofInt p4))]) X.1.1 X.1.2.1 dX3_hasFreePlaces_22 hl (by decide) rfl (fun ls hl => ?_)
  refine lv_iload X.1.1 X.1.2.1 dX3_hasFreePlaces_24 (lv_at hl 1 rfl) ?_
  refine lv_aload X.1.1 X.1.2.1 dX3_hasFreePlaces_26 (lv_at hl 2 rfl) ?_
  refine ls_size (Nat.le_trans (by decide) (rowL_ok (M 6 u1 1)).1) (rowL_ok (M 6 u1 1)).2 X (kc := 3) rmL_ok rm_c (by decide) hR hS kw_441 hl.1 dX3_hasFreePlaces_28 (Nat.le_of_ble_eq_true rfl) (fun H locs hR hS => ?_)
  have r5 := hR.r (rowL (M 6 u1 1)) 0 (-1)
  refine sa_icmp_gt (tgt := 46) X.1 c3 r5 dX3_hasFreePlaces_31 (by decide) (fun hc => ?_) (fun hc => ?_)
  · have hw := hw.1 hc
    exact t_X3_hasFreePlaces_46 X hu1 hp2 hp3 hp4 _ hw _ _ hR hS _ (lv_sub hl [] rfl)
  · have hw := hw.2 hc
    refine lv_iload X.1.1 X.1.2.1 dX3_hasFreePlaces_34 (lv_at hl 0 rfl) ?_
    refine lv_aload_n X.1.1 X.1.2.1 dX3_hasFreePlaces_36 rfl (lv_at hl 3 rfl) ?_
    refine gt_4_0 X hR (okf X.2.2.1 rfl) kw_112 dX3_hasFreePlaces_37 ?_
    refine ls_size (by decide) (by decide) X (kc := 3) rmL_ok rm_c (by decide) hR hS kw_441 hl.1 dX3_hasFreePlaces_40 (Nat.le_of_ble_eq_true rfl) (fun H locs hR hS => ?_)
    have r6 := hR.r 12 0 (-1)
    refine sa_icmp_le (tgt := 48) X.1 c4 r6 dX3_hasFreePlaces_43 (by decide) (fun hc => ?_) (fun hc => ?_)
    · have hw := hw.1 hc
      refine lv_aload_n X.1.1 X.1.2.1 dX3_hasFreePlaces_48 rfl (lv_at hl 4 rfl) ?_
      refine gt_6_6 X hR hu1 kw_905 dX3_hasFreePlaces_49 ?_
      have r7 := hR.r 6 u1 6
      refine lv_istore (lv' := [(8, .int (Int32.ofInt (M 6 u1 6))), (7, .int (Int32.ofInt (p2 + p4))), (6, .int (Int32.ofInt ((M 6 u1 6) + p3))), (5, .ref (α (rowL (M 6 u1 1)) 0)), (0, .ref (α 4 0)), (1, .ref (α 6 u1)), (2, .int (Int32.ofInt p2)), (3, .int (Int32.ofInt p3)), (4, .int (Int32.ofInt p4))]) X.1.1 X.1.2.1 dX3_hasFreePlaces_52 hl (by decide) rfl (fun ls hl => ?_)
      obtain ⟨n15, hw⟩ := hw
      exact t_X3_hasFreePlaces_54 X hu1 hp2 hp3 hp4 n15 _ _ _ _ _ hw (rowL_ok (M 6 u1 1)) c3 c4 r7 _ _ hR hS _ (lv_sub hl [6, 3, 2, 1, 0] rfl)
    · have hw := hw.2 hc
      exact t_X3_hasFreePlaces_46 X hu1 hp2 hp3 hp4 _ hw _ _ hR hS _ (lv_sub hl [] rfl)
theorem m_X3_hasFreePlaces {l : Launch} {G : Gx} {e0 : Nat} {α : Ax} {κ : Nat → Int} {B : Nat} {u1 : Int} {p2 : Int} {p3 : Int} {p4 : Int} (hκ : kOK κ) (hu1 : okk κ 6 u1) (hp2 : inR p2) (hp3 : inR p3) (hp4 : inR p4) {M : Mem} {Qm : Int → Mem → Prop} (hw : wp_X3_hasFreePlaces u1 p2 p3 p4 M Qm) : CI l yX3_hasFreePlaces (Cond.code yX3_hasFreePlaces cX3_hasFreePlaces 10 (some .boolean)) 3 G e0 α κ B [.ref (α 4 0), .ref (α 6 u1), .int (Int32.ofInt p2), .int (Int32.ofInt p3), .int (Int32.ofInt p4)] M Qm :=
  CI.mk hκ (by decide +kernel) rfl (Nat.le_of_ble_eq_true rfl) (lv := [(0, .ref (α 4 0)), (1, .ref (α 6 u1)), (2, .int (Int32.ofInt p2)), (3, .int (Int32.ofInt p3)), (4, .int (Int32.ofInt p4))]) rfl (fun p e s m args below meth c ls X hR hS hl => t_X3_hasFreePlaces X hu1 hp2 hp3 hp4 hw _ _ hR hS ls hl)
theorem cs_X3_hasFreePlaces {cc : ByteArray} {nL : Nat} {own : String} {ret : Option FieldType} {idx pc : Nat} {u1 : Int} {p2 : Int} {p3 : Int} {p4 : Int} (X : CX p m c cc nL s args own G B κ meth ret) (hu1 : okk κ 6 u1) (hp2 : inR p2) (hp3 : inR p3) (hp4 : inR p4) {kc : Nat} {R : Room} {cells slots : Nat} (hRr : RmOK R kc) (hcel : cells ≤ R.cells ∧ slots ≤ R.slots) (hk : 3 + 1 ≤ kc) {M : Mem} {H : Heap} {locs : List Loc} (hR : Rp G e0 α κ B M H) (hS : va_S (fun q => B ≤ q) s.heap H locs) (k1 : Cond.methodLink own idx yX3_hasFreePlaces ∈ gw) {ls : Array Slot} (hml : ls.size = nL) {rest : List Value} (hd : decode cc pc = .ok (.invokevirtual idx, 3)) (hrest : (rest.map fun v => v.category).sum ≤ 8) {Q : State → Prop} {Qm : Int → Mem → Prop} (hw : wp_X3_hasFreePlaces u1 p2 p3 p4 M Qm) (kk : ∀ (r : Int) (M1 : Mem) (H1 : Heap) (locs1 : List Loc), Qm r M1 → inR r → Rp G e0 α κ B M1 H1 → va_S (fun q => B ≤ q) s.heap H1 locs1 → W p l e R s m args below meth c H1 locs1 cells slots Q (F0 m (pc + 3) ls (.int (Int32.ofInt r) :: rest))) : W p l e R s m args below meth c H locs cells slots Q (F0 m pc ls (.int (Int32.ofInt p4) :: .int (Int32.ofInt p3) :: .int (Int32.ofInt p2) :: .ref (α 6 u1) :: .ref (α 4 0) :: rest)) :=
  sa_callVI 3 (n := 4) (As := [.ref (α 6 u1), .int (Int32.ofInt p2), .int (Int32.ofInt p3), .int (Int32.ofInt p4)]) (rest := rest) X.1 X.2.1 hR hS (m_X3_hasFreePlaces X.2.2.1 hu1 hp2 hp3 hp4 hw) k1 kw_972 kw_973 kw_39 kw_974 ⟨rfl, by decide +kernel, by decide +kernel, by decide +kernel⟩ (rm_ok hRr hk (by decide)) (rc_4 X hR (okf X.2.2.1 rfl)) rfl rfl hrest hml hd hcel kk
def wp_X3_cellNumberAt_36 (p1 : Int) (p2 : Int) (Qm : Int → Mem → Prop) (z0 : Int) (M : Mem) : Prop := Qm z0 M
def wp_X3_cellNumberAt_35 (p1 : Int) (p2 : Int) (Qm : Int → Mem → Prop) (M : Mem) : Prop := wp_X3_cellNumberAt_36 p1 p2 Qm (-1) M
def wp_X3_cellNumberAt (p1 : Int) (p2 : Int) (M : Mem) (Qm : Int → Mem → Prop) : Prop := wp_X3_hasRow p1 M fun (x2 : Int) (M1 : Mem) => ((x2 = 0 → wp_X3_cellNumberAt_35 p1 p2 Qm M1) ∧ (¬ x2 = 0 → wp_X3_hasColumn p2 M1 fun (x5 : Int) (M4 : Mem) => ((x5 = 0 → wp_X3_cellNumberAt_35 p1 p2 Qm M4) ∧ (¬ x5 = 0 → (0 ≤ p1 ∧ p1 < M4 13 0 (-1)) ∧ (0 ≤ p2 ∧ p2 < 6) ∧ wp_X3_cellNumberAt_36 p1 p2 Qm (M4 37 (M4 13 0 p1) p2) M4))))
set_option maxHeartbeats 4000000 in
set_option maxRecDepth 100000 in
theorem t_X3_cellNumberAt_36 {p1 : Int} {p2 : Int} (X : CX p m c cX3_cellNumberAt 3 s args RX3 G B κ meth (some .int)) (hp1 : inR p1) (hp2 : inR p2) {Qm : Int → Mem → Prop} : ∀ z0 : Int, ∀ M : Mem, wp_X3_cellNumberAt_36 p1 p2 Qm z0 M → inR z0 → ∀ (H : Heap) (locs : List Loc), Rp G e0 α κ B M H → va_S (fun q => B ≤ q) s.heap H locs → ∀ (ls : Array Slot), lv_has ls 3 [] → WI p l e 3 s m args below meth c G e0 α κ B Qm H locs 36 ls [.int (Int32.ofInt z0)] := by
  intro z0 M hw hz0 H locs hR hS ls hl
  have hw : Qm z0 M := hw
  exact sa_iret X.1 X.2.2.2.1 X.2.2.2.2 hR hS hz0 hw dX3_cellNumberAt_36
set_option maxHeartbeats 4000000 in
set_option maxRecDepth 100000 in
theorem t_X3_cellNumberAt_35 {p1 : Int} {p2 : Int} (X : CX p m c cX3_cellNumberAt 3 s args RX3 G B κ meth (some .int)) (hp1 : inR p1) (hp2 : inR p2) {Qm : Int → Mem → Prop} : ∀ M : Mem, wp_X3_cellNumberAt_35 p1 p2 Qm M → ∀ (H : Heap) (locs : List Loc), Rp G e0 α κ B M H → va_S (fun q => B ≤ q) s.heap H locs → ∀ (ls : Array Slot), lv_has ls 3 [] → WI p l e 3 s m args below meth c G e0 α κ B Qm H locs 35 ls [] := by
  intro M hw H locs hR hS ls hl
  have hw : wp_X3_cellNumberAt_36 p1 p2 Qm (-1) M := hw
  refine sa_const X.1 dX3_cellNumberAt_35 ?_
  exact t_X3_cellNumberAt_36 X hp1 hp2 _ _ hw (inR_c (a := -1) rfl) _ _ hR hS _ (lv_sub hl [] rfl)
set_option maxHeartbeats 4000000 in
set_option maxRecDepth 100000 in
theorem t_X3_cellNumberAt {p1 : Int} {p2 : Int} (X : CX p m c cX3_cellNumberAt 3 s args RX3 G B κ meth (some .int)) (hp1 : inR p1) (hp2 : inR p2) {M : Mem} {Qm : Int → Mem → Prop} (hw : wp_X3_cellNumberAt p1 p2 M Qm) (H : Heap) (locs : List Loc) (hR : Rp G e0 α κ B M H) (hS : va_S (fun q => B ≤ q) s.heap H locs) (ls : Array Slot) (hl : lv_has ls 3 [(0, .ref (α 4 0)), (1, .int (Int32.ofInt p1)), (2, .int (Int32.ofInt p2))]) : WI p l e 3 s m args below meth c G e0 α κ B Qm H locs 0 ls [] := by
  have hw : wp_X3_hasRow p1 M fun (x2 : Int) (M1 : Mem) => ((x2 = 0 → wp_X3_cellNumberAt_35 p1 p2 Qm M1) ∧ (¬ x2 = 0 → wp_X3_hasColumn p2 M1 fun (x5 : Int) (M4 : Mem) => ((x5 = 0 → wp_X3_cellNumberAt_35 p1 p2 Qm M4) ∧ (¬ x5 = 0 → (0 ≤ p1 ∧ p1 < M4 13 0 (-1)) ∧ (0 ≤ p2 ∧ p2 < 6) ∧ wp_X3_cellNumberAt_36 p1 p2 Qm (M4 37 (M4 13 0 p1) p2) M4)))) := hw
  refine lv_aload_n X.1.1 X.1.2.1 dX3_cellNumberAt_0 rfl (lv_at hl 0 rfl) ?_
  refine lv_iload_n X.1.1 X.1.2.1 dX3_cellNumberAt_1 rfl (lv_at hl 1 rfl) ?_
  refine cs_X3_hasRow X hp1 (kc := 3) rmL_ok rm_c (by decide) hR hS kw_639 hl.1 dX3_cellNumberAt_2 (Nat.le_of_ble_eq_true rfl) hw (fun x2 M1 H locs hw r3 hR hS => ?_)
  refine sa_if_eq (tgt := 35) X.1 r3 dX3_cellNumberAt_5 (by decide) (fun hc => ?_) (fun hc => ?_)
  · have hw := hw.1 hc
    exact t_X3_cellNumberAt_35 X hp1 hp2 _ hw _ _ hR hS _ (lv_sub hl [] rfl)
  · have hw := hw.2 hc
    refine lv_aload_n X.1.1 X.1.2.1 dX3_cellNumberAt_8 rfl (lv_at hl 0 rfl) ?_
    refine lv_iload_n X.1.1 X.1.2.1 dX3_cellNumberAt_9 rfl (lv_at hl 2 rfl) ?_
    refine cs_X3_hasColumn X hp2 (kc := 3) rmL_ok rm_c (by decide) hR hS kw_1062 hl.1 dX3_cellNumberAt_10 (Nat.le_of_ble_eq_true rfl) hw (fun x5 M4 H locs hw r6 hR hS => ?_)
    refine sa_if_eq (tgt := 35) X.1 r6 dX3_cellNumberAt_13 (by decide) (fun hc => ?_) (fun hc => ?_)
    · have hw := hw.1 hc
      exact t_X3_cellNumberAt_35 X hp1 hp2 _ hw _ _ hR hS _ (lv_sub hl [] rfl)
    · have hw := hw.2 hc
      refine lv_aload_n X.1.1 X.1.2.1 dX3_cellNumberAt_16 rfl (lv_at hl 0 rfl) ?_
      refine gt_4_1 X hR (okf X.2.2.1 rfl) kw_115 dX3_cellNumberAt_17 ?_
      refine lv_iload_n X.1.1 X.1.2.1 dX3_cellNumberAt_20 rfl (lv_at hl 1 rfl) ?_
      have c7 := hw.1
      have hw := hw.2
      refine ls_get (ci := 6) (by decide) (by decide) rfl X c7 (kc := 3) rmL_ok rm_c (by decide) hR hS kw_442 hl.1 dX3_cellNumberAt_21 (Nat.le_of_ble_eq_true rfl) (fun H locs o8 hR hS => ?_)
      refine ck_6 X hR o8 kw_580 dX3_cellNumberAt_24 ?_
      refine gt_6_5 X hR o8 kw_903 dX3_cellNumberAt_27 ?_
      refine lv_iload_n X.1.1 X.1.2.1 dX3_cellNumberAt_30 rfl (lv_at hl 2 rfl) ?_
      have c9 := hw.1
      have hw := hw.2
      refine ra_37 X hR (ok4 X.2.2.1 rfl o8) c9 dX3_cellNumberAt_31 ?_
      have r10 := hR.r 37 (M4 13 0 p1) p2
      refine lv_goto (tgt := 36) X.1.1 X.1.2.1 dX3_cellNumberAt_32 (by decide) ?_
      exact t_X3_cellNumberAt_36 X hp1 hp2 _ _ hw r10 _ _ hR hS _ (lv_sub hl [] rfl)
theorem m_X3_cellNumberAt {l : Launch} {G : Gx} {e0 : Nat} {α : Ax} {κ : Nat → Int} {B : Nat} {p1 : Int} {p2 : Int} (hκ : kOK κ) (hp1 : inR p1) (hp2 : inR p2) {M : Mem} {Qm : Int → Mem → Prop} (hw : wp_X3_cellNumberAt p1 p2 M Qm) : CI l yX3_cellNumberAt (Cond.code yX3_cellNumberAt cX3_cellNumberAt 3 (some .int)) 3 G e0 α κ B [.ref (α 4 0), .int (Int32.ofInt p1), .int (Int32.ofInt p2)] M Qm :=
  CI.mk hκ (by decide +kernel) rfl (Nat.le_of_ble_eq_true rfl) (lv := [(0, .ref (α 4 0)), (1, .int (Int32.ofInt p1)), (2, .int (Int32.ofInt p2))]) rfl (fun p e s m args below meth c ls X hR hS hl => t_X3_cellNumberAt X hp1 hp2 hw _ _ hR hS ls hl)
theorem cs_X3_cellNumberAt {cc : ByteArray} {nL : Nat} {own : String} {ret : Option FieldType} {idx pc : Nat} {p1 : Int} {p2 : Int} (X : CX p m c cc nL s args own G B κ meth ret) (hp1 : inR p1) (hp2 : inR p2) {kc : Nat} {R : Room} {cells slots : Nat} (hRr : RmOK R kc) (hcel : cells ≤ R.cells ∧ slots ≤ R.slots) (hk : 3 + 1 ≤ kc) {M : Mem} {H : Heap} {locs : List Loc} (hR : Rp G e0 α κ B M H) (hS : va_S (fun q => B ≤ q) s.heap H locs) (k1 : Cond.methodLink own idx yX3_cellNumberAt ∈ gw) {ls : Array Slot} (hml : ls.size = nL) {rest : List Value} (hd : decode cc pc = .ok (.invokevirtual idx, 3)) (hrest : (rest.map fun v => v.category).sum ≤ 8) {Q : State → Prop} {Qm : Int → Mem → Prop} (hw : wp_X3_cellNumberAt p1 p2 M Qm) (kk : ∀ (r : Int) (M1 : Mem) (H1 : Heap) (locs1 : List Loc), Qm r M1 → inR r → Rp G e0 α κ B M1 H1 → va_S (fun q => B ≤ q) s.heap H1 locs1 → W p l e R s m args below meth c H1 locs1 cells slots Q (F0 m (pc + 3) ls (.int (Int32.ofInt r) :: rest))) : W p l e R s m args below meth c H locs cells slots Q (F0 m pc ls (.int (Int32.ofInt p2) :: .int (Int32.ofInt p1) :: .ref (α 4 0) :: rest)) :=
  sa_callVI 3 (n := 2) (As := [.int (Int32.ofInt p1), .int (Int32.ofInt p2)]) (rest := rest) X.1 X.2.1 hR hS (m_X3_cellNumberAt X.2.2.1 hp1 hp2 hw) k1 kw_1059 kw_1060 kw_39 kw_1061 ⟨rfl, by decide +kernel, by decide +kernel, by decide +kernel⟩ (rm_ok hRr hk (by decide)) (rc_4 X hR (okf X.2.2.1 rfl)) rfl rfl hrest hml hd hcel kk
def wp_X3_isShown (p1 : Int) (M : Mem) (Qm : Int → Mem → Prop) : Prop := (0 ≤ p1 → (p1 < 6 → (0 ≤ p1 ∧ p1 < 6) ∧ True) ∧ True) ∧ (bit (if p1 < 0 then (0 : Int) else (if 6 ≤ p1 then (0 : Int) else (if (M 33 0 p1) = 0 then (0 : Int) else 1)))) ∧ Qm (if p1 < 0 then (0 : Int) else (if 6 ≤ p1 then (0 : Int) else (if (M 33 0 p1) = 0 then (0 : Int) else 1))) M
set_option maxHeartbeats 4000000 in
set_option maxRecDepth 100000 in
theorem t_X3_isShown {p1 : Int} (X : CX p m c cX3_isShown 2 s args RX3 G B κ meth (some .boolean)) (hp1 : inR p1) {M : Mem} {Qm : Int → Mem → Prop} (hw : wp_X3_isShown p1 M Qm) (H : Heap) (locs : List Loc) (hR : Rp G e0 α κ B M H) (hS : va_S (fun q => B ≤ q) s.heap H locs) (ls : Array Slot) (hl : lv_has ls 2 [(0, .ref (α 4 0)), (1, .int (Int32.ofInt p1))]) : WI p l e 0 s m args below meth c G e0 α κ B Qm H locs 0 ls [] := by
  have hw : (0 ≤ p1 → (p1 < 6 → (0 ≤ p1 ∧ p1 < 6) ∧ True) ∧ True) ∧ (bit (if p1 < 0 then (0 : Int) else (if 6 ≤ p1 then (0 : Int) else (if (M 33 0 p1) = 0 then (0 : Int) else 1)))) ∧ Qm (if p1 < 0 then (0 : Int) else (if 6 ≤ p1 then (0 : Int) else (if (M 33 0 p1) = 0 then (0 : Int) else 1))) M := hw
  refine lv_iload_n X.1.1 X.1.2.1 dX3_isShown_0 rfl (lv_at hl 1 rfl) ?_
  have s7 := hw.1
  have hw := hw.2
  have r8 := inR_ite (c := p1 < 0) (inR_c (a := 0) rfl) (inR_ite (c := 6 ≤ p1) (inR_c (a := 0) rfl) (inR_ite (c := (M 33 0 p1) = 0) (inR_c (a := 0) rfl) (inR_c (a := 1) rfl)))
  refine cut_j (A := ∀ v9 : Int, v9 = (if p1 < 0 then (0 : Int) else (if 6 ≤ p1 then (0 : Int) else (if (M 33 0 p1) = 0 then (0 : Int) else 1))) → WI p l e 0 s m args below meth c G e0 α κ B Qm H locs 24 ls [.int (Int32.ofInt v9)]) (fun J10 => ?_) ?_
  · refine sa_if_lt (tgt := 23) X.1 hp1 dX3_isShown_1 (by decide) (fun hc => ?_) (fun hc => ?_)
    · skip
      refine sa_const X.1 dX3_isShown_23 ?_
      exact J10 (0) (if_pos (c := p1 < 0) hc).symm
    · have hw := s7 hc
      refine lv_iload_n X.1.1 X.1.2.1 dX3_isShown_4 rfl (lv_at hl 1 rfl) ?_
      refine sa_bipush X.1 dX3_isShown_5 (by decide) ?_
      have s4 := hw.1
      have hw := hw.2
      refine cut_j (A := ∀ v5 : Int, v5 = (if 6 ≤ p1 then (0 : Int) else (if (M 33 0 p1) = 0 then (0 : Int) else 1)) → WI p l e 0 s m args below meth c G e0 α κ B Qm H locs 24 ls [.int (Int32.ofInt v5)]) (fun J6 => ?_) ?_
      · refine sa_icmp_ge (tgt := 23) X.1 hp1 (inR_c (a := 6) rfl) dX3_isShown_7 (by decide) (fun hc => ?_) (fun hc => ?_)
        · skip
          refine sa_const X.1 dX3_isShown_23 ?_
          exact J6 (0) (if_pos (c := 6 ≤ p1) hc).symm
        · have hw := s4 hc
          refine lv_aload_n X.1.1 X.1.2.1 dX3_isShown_10 rfl (lv_at hl 0 rfl) ?_
          refine gt_4_6 X hR (okf X.2.2.1 rfl) kw_128 dX3_isShown_11 ?_
          refine lv_iload_n X.1.1 X.1.2.1 dX3_isShown_14 rfl (lv_at hl 1 rfl) ?_
          have c1 := hw.1
          have hw := hw.2
          refine ra_33 X hR (okf X.2.2.1 rfl) c1 dX3_isShown_15 ?_
          refine cut_j (A := ∀ v2 : Int, v2 = (if (M 33 0 p1) = 0 then (0 : Int) else 1) → WI p l e 0 s m args below meth c G e0 α κ B Qm H locs 24 ls [.int (Int32.ofInt v2)]) (fun J3 => ?_) ?_
          · refine sa_if_eq (tgt := 23) X.1 (hR.r 33 0 p1) dX3_isShown_16 (by decide) (fun hc => ?_) (fun hc => ?_)
            · skip
              refine sa_const X.1 dX3_isShown_23 ?_
              exact J3 (0) (if_pos (c := (M 33 0 p1) = 0) hc).symm
            · skip
              refine sa_const X.1 dX3_isShown_19 ?_
              refine lv_goto (tgt := 24) X.1.1 X.1.2.1 dX3_isShown_20 (by decide) ?_
              exact J3 (1) (if_neg (c := (M 33 0 p1) = 0) hc).symm
          intro v2 hv2
          subst hv2
          exact J6 ((if (M 33 0 p1) = 0 then (0 : Int) else 1)) (if_neg (c := 6 ≤ p1) (Int.not_le.mpr hc)).symm
      intro v5 hv5
      subst hv5
      exact J10 ((if 6 ≤ p1 then (0 : Int) else (if (M 33 0 p1) = 0 then (0 : Int) else 1))) (if_neg (c := p1 < 0) (Int.not_lt.mpr hc)).symm
  intro v9 hv9
  subst hv9
  have c11 := hw.1
  have hw := hw.2
  exact sa_zret X.1 X.2.2.2.1 X.2.2.2.2 hR hS c11 hw dX3_isShown_24
theorem m_X3_isShown {l : Launch} {G : Gx} {e0 : Nat} {α : Ax} {κ : Nat → Int} {B : Nat} {p1 : Int} (hκ : kOK κ) (hp1 : inR p1) {M : Mem} {Qm : Int → Mem → Prop} (hw : wp_X3_isShown p1 M Qm) : CI l yX3_isShown (Cond.code yX3_isShown cX3_isShown 2 (some .boolean)) 0 G e0 α κ B [.ref (α 4 0), .int (Int32.ofInt p1)] M Qm :=
  CI.mk hκ (by decide +kernel) rfl (Nat.le_of_ble_eq_true rfl) (lv := [(0, .ref (α 4 0)), (1, .int (Int32.ofInt p1))]) rfl (fun p e s m args below meth c ls X hR hS hl => t_X3_isShown X hp1 hw _ _ hR hS ls hl)
theorem cs_X3_isShown {cc : ByteArray} {nL : Nat} {own : String} {ret : Option FieldType} {idx pc : Nat} {p1 : Int} (X : CX p m c cc nL s args own G B κ meth ret) (hp1 : inR p1) {kc : Nat} {R : Room} {cells slots : Nat} (hRr : RmOK R kc) (hcel : cells ≤ R.cells ∧ slots ≤ R.slots) (hk : 0 + 1 ≤ kc) {M : Mem} {H : Heap} {locs : List Loc} (hR : Rp G e0 α κ B M H) (hS : va_S (fun q => B ≤ q) s.heap H locs) (k1 : Cond.methodLink own idx yX3_isShown ∈ gw) {ls : Array Slot} (hml : ls.size = nL) {rest : List Value} (hd : decode cc pc = .ok (.invokevirtual idx, 3)) (hrest : (rest.map fun v => v.category).sum ≤ 8) {Q : State → Prop} {Qm : Int → Mem → Prop} (hw : wp_X3_isShown p1 M Qm) (kk : ∀ (r : Int) (M1 : Mem) (H1 : Heap) (locs1 : List Loc), Qm r M1 → inR r → Rp G e0 α κ B M1 H1 → va_S (fun q => B ≤ q) s.heap H1 locs1 → W p l e R s m args below meth c H1 locs1 cells slots Q (F0 m (pc + 3) ls (.int (Int32.ofInt r) :: rest))) : W p l e R s m args below meth c H locs cells slots Q (F0 m pc ls (.int (Int32.ofInt p1) :: .ref (α 4 0) :: rest)) :=
  sa_callVI 0 (n := 1) (As := [.int (Int32.ofInt p1)]) (rest := rest) X.1 X.2.1 hR hS (m_X3_isShown X.2.2.1 hp1 hw) k1 kw_438 kw_439 kw_39 kw_440 ⟨rfl, by decide +kernel, by decide +kernel, by decide +kernel⟩ (rm_ok hRr hk (by decide)) (rc_4 X hR (okf X.2.2.1 rfl)) rfl rfl hrest hml hd hcel kk
def wp_X3_isShownContent_40 (p1 : Int) (Qm : Int → Mem → Prop) (M : Mem) : Prop := Qm 0 M
def wp_X3_isShownContent (p1 : Int) (M : Mem) (Qm : Int → Mem → Prop) : Prop := wp_X3_isShown p1 M fun (x2 : Int) (M1 : Mem) => ((x2 = 0 → wp_X3_isShownContent_40 p1 Qm M1) ∧ (¬ x2 = 0 → (((M1 12 0 (-1)) ≤ p1 → wp_X3_isShownContent_40 p1 Qm M1) ∧ (p1 < (M1 12 0 (-1)) → (0 ≤ p1 ∧ p1 < M1 12 0 (-1)) ∧ (bit (if ¬ (M1 2 (M1 12 0 p1) 0) = 0 then (0 : Int) else 1)) ∧ Qm (if ¬ (M1 2 (M1 12 0 p1) 0) = 0 then (0 : Int) else 1) M1))))
set_option maxHeartbeats 4000000 in
set_option maxRecDepth 100000 in
theorem t_X3_isShownContent_40 {p1 : Int} (X : CX p m c cX3_isShownContent 2 s args RX3 G B κ meth (some .boolean)) (hp1 : inR p1) {Qm : Int → Mem → Prop} : ∀ M : Mem, wp_X3_isShownContent_40 p1 Qm M → ∀ (H : Heap) (locs : List Loc), Rp G e0 α κ B M H → va_S (fun q => B ≤ q) s.heap H locs → ∀ (ls : Array Slot), lv_has ls 2 [] → WI p l e 3 s m args below meth c G e0 α κ B Qm H locs 40 ls [] := by
  intro M hw H locs hR hS ls hl
  have hw : Qm 0 M := hw
  refine sa_const X.1 dX3_isShownContent_40 ?_
  exact sa_zret X.1 X.2.2.2.1 X.2.2.2.2 hR hS (Or.inl rfl) hw dX3_isShownContent_41
set_option maxHeartbeats 4000000 in
set_option maxRecDepth 100000 in
theorem t_X3_isShownContent {p1 : Int} (X : CX p m c cX3_isShownContent 2 s args RX3 G B κ meth (some .boolean)) (hp1 : inR p1) {M : Mem} {Qm : Int → Mem → Prop} (hw : wp_X3_isShownContent p1 M Qm) (H : Heap) (locs : List Loc) (hR : Rp G e0 α κ B M H) (hS : va_S (fun q => B ≤ q) s.heap H locs) (ls : Array Slot) (hl : lv_has ls 2 [(0, .ref (α 4 0)), (1, .int (Int32.ofInt p1))]) : WI p l e 3 s m args below meth c G e0 α κ B Qm H locs 0 ls [] := by
  have hw : wp_X3_isShown p1 M fun (x2 : Int) (M1 : Mem) => ((x2 = 0 → wp_X3_isShownContent_40 p1 Qm M1) ∧ (¬ x2 = 0 → (((M1 12 0 (-1)) ≤ p1 → wp_X3_isShownContent_40 p1 Qm M1) ∧ (p1 < (M1 12 0 (-1)) → (0 ≤ p1 ∧ p1 < M1 12 0 (-1)) ∧ (bit (if ¬ (M1 2 (M1 12 0 p1) 0) = 0 then (0 : Int) else 1)) ∧ Qm (if ¬ (M1 2 (M1 12 0 p1) 0) = 0 then (0 : Int) else 1) M1)))) := hw
  refine lv_aload_n X.1.1 X.1.2.1 dX3_isShownContent_0 rfl (lv_at hl 0 rfl) ?_
  refine lv_iload_n X.1.1 X.1.2.1 dX3_isShownContent_1 rfl (lv_at hl 1 rfl) ?_
  refine cs_X3_isShown X hp1 (kc := 3) rmL_ok rm_c (by decide) hR hS kw_437 hl.1 dX3_isShownContent_2 (Nat.le_of_ble_eq_true rfl) hw (fun x2 M1 H locs hw r3 hR hS => ?_)
  refine sa_if_eq (tgt := 40) X.1 r3 dX3_isShownContent_5 (by decide) (fun hc => ?_) (fun hc => ?_)
  · have hw := hw.1 hc
    exact t_X3_isShownContent_40 X hp1 _ hw _ _ hR hS _ (lv_sub hl [] rfl)
  · have hw := hw.2 hc
    refine lv_iload_n X.1.1 X.1.2.1 dX3_isShownContent_8 rfl (lv_at hl 1 rfl) ?_
    refine lv_aload_n X.1.1 X.1.2.1 dX3_isShownContent_9 rfl (lv_at hl 0 rfl) ?_
    refine gt_4_0 X hR (okf X.2.2.1 rfl) kw_112 dX3_isShownContent_10 ?_
    refine ls_size (by decide) (by decide) X (kc := 3) rmL_ok rm_c (by decide) hR hS kw_441 hl.1 dX3_isShownContent_13 (Nat.le_of_ble_eq_true rfl) (fun H locs hR hS => ?_)
    have r4 := hR.r 12 0 (-1)
    refine sa_icmp_ge (tgt := 40) X.1 hp1 r4 dX3_isShownContent_16 (by decide) (fun hc => ?_) (fun hc => ?_)
    · have hw := hw.1 hc
      exact t_X3_isShownContent_40 X hp1 _ hw _ _ hR hS _ (lv_sub hl [] rfl)
    · have hw := hw.2 hc
      refine lv_aload_n X.1.1 X.1.2.1 dX3_isShownContent_19 rfl (lv_at hl 0 rfl) ?_
      refine gt_4_0 X hR (okf X.2.2.1 rfl) kw_112 dX3_isShownContent_20 ?_
      refine lv_iload_n X.1.1 X.1.2.1 dX3_isShownContent_23 rfl (lv_at hl 1 rfl) ?_
      have c5 := hw.1
      have hw := hw.2
      refine ls_get (ci := 2) (by decide) (by decide) rfl X c5 (kc := 3) rmL_ok rm_c (by decide) hR hS kw_442 hl.1 dX3_isShownContent_24 (Nat.le_of_ble_eq_true rfl) (fun H locs o6 hR hS => ?_)
      refine ck_2 X hR o6 kw_443 dX3_isShownContent_27 ?_
      refine gt_2_0 X hR o6 kw_785 dX3_isShownContent_30 ?_
      have r7 := hR.r 2 (M1 12 0 p1) 0
      have r8 := inR_ite (c := ¬ (M1 2 (M1 12 0 p1) 0) = 0) (inR_c (a := 0) rfl) (inR_c (a := 1) rfl)
      refine cut_j (A := ∀ v9 : Int, v9 = (if ¬ (M1 2 (M1 12 0 p1) 0) = 0 then (0 : Int) else 1) → WI p l e 3 s m args below meth c G e0 α κ B Qm H locs 41 ls [.int (Int32.ofInt v9)]) (fun J10 => ?_) ?_
      · refine sa_if_ne (tgt := 40) X.1 r7 dX3_isShownContent_33 (by decide) (fun hc => ?_) (fun hc => ?_)
        · skip
          refine sa_const X.1 dX3_isShownContent_40 ?_
          exact J10 (0) (if_pos (c := ¬ (M1 2 (M1 12 0 p1) 0) = 0) hc).symm
        · skip
          refine sa_const X.1 dX3_isShownContent_36 ?_
          refine lv_goto (tgt := 41) X.1.1 X.1.2.1 dX3_isShownContent_37 (by decide) ?_
          exact J10 (1) (if_neg (c := ¬ (M1 2 (M1 12 0 p1) 0) = 0) (fun z => z hc)).symm
      intro v9 hv9
      subst hv9
      have c11 := hw.1
      have hw := hw.2
      exact sa_zret X.1 X.2.2.2.1 X.2.2.2.2 hR hS c11 hw dX3_isShownContent_41
theorem m_X3_isShownContent {l : Launch} {G : Gx} {e0 : Nat} {α : Ax} {κ : Nat → Int} {B : Nat} {p1 : Int} (hκ : kOK κ) (hp1 : inR p1) {M : Mem} {Qm : Int → Mem → Prop} (hw : wp_X3_isShownContent p1 M Qm) : CI l yX3_isShownContent (Cond.code yX3_isShownContent cX3_isShownContent 2 (some .boolean)) 3 G e0 α κ B [.ref (α 4 0), .int (Int32.ofInt p1)] M Qm :=
  CI.mk hκ (by decide +kernel) rfl (Nat.le_of_ble_eq_true rfl) (lv := [(0, .ref (α 4 0)), (1, .int (Int32.ofInt p1))]) rfl (fun p e s m args below meth c ls X hR hS hl => t_X3_isShownContent X hp1 hw _ _ hR hS ls hl)
theorem cs_X3_isShownContent {cc : ByteArray} {nL : Nat} {own : String} {ret : Option FieldType} {idx pc : Nat} {p1 : Int} (X : CX p m c cc nL s args own G B κ meth ret) (hp1 : inR p1) {kc : Nat} {R : Room} {cells slots : Nat} (hRr : RmOK R kc) (hcel : cells ≤ R.cells ∧ slots ≤ R.slots) (hk : 3 + 1 ≤ kc) {M : Mem} {H : Heap} {locs : List Loc} (hR : Rp G e0 α κ B M H) (hS : va_S (fun q => B ≤ q) s.heap H locs) (k1 : Cond.methodLink own idx yX3_isShownContent ∈ gw) {ls : Array Slot} (hml : ls.size = nL) {rest : List Value} (hd : decode cc pc = .ok (.invokevirtual idx, 3)) (hrest : (rest.map fun v => v.category).sum ≤ 8) {Q : State → Prop} {Qm : Int → Mem → Prop} (hw : wp_X3_isShownContent p1 M Qm) (kk : ∀ (r : Int) (M1 : Mem) (H1 : Heap) (locs1 : List Loc), Qm r M1 → inR r → Rp G e0 α κ B M1 H1 → va_S (fun q => B ≤ q) s.heap H1 locs1 → W p l e R s m args below meth c H1 locs1 cells slots Q (F0 m (pc + 3) ls (.int (Int32.ofInt r) :: rest))) : W p l e R s m args below meth c H locs cells slots Q (F0 m pc ls (.int (Int32.ofInt p1) :: .ref (α 4 0) :: rest)) :=
  sa_callVI 3 (n := 1) (As := [.int (Int32.ofInt p1)]) (rest := rest) X.1 X.2.1 hR hS (m_X3_isShownContent X.2.2.1 hp1 hw) k1 kw_496 kw_497 kw_39 kw_498 ⟨rfl, by decide +kernel, by decide +kernel, by decide +kernel⟩ (rm_ok hRr hk (by decide)) (rc_4 X hR (okf X.2.2.1 rfl)) rfl rfl hrest hml hd hcel kk
def wp_X3_countShownColumns_4 (Qm : Int → Mem → Prop) : Nat → Int → Int → Mem → Prop
  | 0 => fun _ _ _ => False
  | n + 1 => fun y1 y2 M => (((M 12 0 (-1)) ≤ y2 → Qm y1 M) ∧ (y2 < (M 12 0 (-1)) → wp_X3_isShown y2 M fun (x3 : Int) (M2 : Mem) => (inR (y1 + (if x3 = 0 then (0 : Int) else 1))) ∧ (inR (y2 + 1)) ∧ wp_X3_countShownColumns_4 Qm n (y1 + (if x3 = 0 then (0 : Int) else 1)) (y2 + 1) M2))
def wp_X3_countShownColumns (M : Mem) (Qm : Int → Mem → Prop) : Prop := (∃ n10 : Nat, wp_X3_countShownColumns_4 Qm n10 0 0 M)
set_option maxHeartbeats 4000000 in
set_option maxRecDepth 100000 in
theorem t_X3_countShownColumns_4 (X : CX p m c cX3_countShownColumns 3 s args RX3 G B κ meth (some .int)) {Qm : Int → Mem → Prop} : ∀ n : Nat, ∀ y1 : Int, ∀ y2 : Int, ∀ M : Mem, wp_X3_countShownColumns_4 Qm n y1 y2 M → inR y1 → inR y2 → ∀ (H : Heap) (locs : List Loc), Rp G e0 α κ B M H → va_S (fun q => B ≤ q) s.heap H locs → ∀ (ls : Array Slot), lv_has ls 3 [(0, .ref (α 4 0)), (1, .int (Int32.ofInt y1)), (2, .int (Int32.ofInt y2))] → WI p l e 1 s m args below meth c G e0 α κ B Qm H locs 4 ls [] := by
  intro n
  induction n with
  | zero =>
    intro y1 y2 M hw hy1 hy2 H locs hR hS ls hl
    exact hw.elim
  | succ n ih =>
    intro y1 y2 M hw hy1 hy2 H locs hR hS ls hl
    have hw : (((M 12 0 (-1)) ≤ y2 → Qm y1 M) ∧ (y2 < (M 12 0 (-1)) → wp_X3_isShown y2 M fun (x3 : Int) (M2 : Mem) => (inR (y1 + (if x3 = 0 then (0 : Int) else 1))) ∧ (inR (y2 + 1)) ∧ wp_X3_countShownColumns_4 Qm n (y1 + (if x3 = 0 then (0 : Int) else 1)) (y2 + 1) M2)) := hw
    refine lv_iload_n X.1.1 X.1.2.1 dX3_countShownColumns_4 rfl (lv_at hl 2 rfl) ?_
    refine lv_aload_n X.1.1 X.1.2.1 dX3_countShownColumns_5 rfl (lv_at hl 0 rfl) ?_
    refine gt_4_0 X hR (okf X.2.2.1 rfl) kw_112 dX3_countShownColumns_6 ?_
    refine ls_size (by decide) (by decide) X (kc := 1) rmL_ok rm_c (by decide) hR hS kw_441 hl.1 dX3_countShownColumns_9 (Nat.le_of_ble_eq_true rfl) (fun H locs hR hS => ?_)
    have r1 := hR.r 12 0 (-1)
    refine sa_icmp_ge (tgt := 37) X.1 hy2 r1 dX3_countShownColumns_12 (by decide) (fun hc => ?_) (fun hc => ?_)
    · have hw := hw.1 hc
      refine lv_iload_n X.1.1 X.1.2.1 dX3_countShownColumns_37 rfl (lv_at hl 1 rfl) ?_
      exact sa_iret X.1 X.2.2.2.1 X.2.2.2.2 hR hS hy1 hw dX3_countShownColumns_38
    · have hw := hw.2 hc
      refine lv_iload_n X.1.1 X.1.2.1 dX3_countShownColumns_15 rfl (lv_at hl 1 rfl) ?_
      refine lv_aload_n X.1.1 X.1.2.1 dX3_countShownColumns_16 rfl (lv_at hl 0 rfl) ?_
      refine lv_iload_n X.1.1 X.1.2.1 dX3_countShownColumns_17 rfl (lv_at hl 2 rfl) ?_
      refine cs_X3_isShown X hy2 (kc := 1) rmL_ok rm_c (by decide) hR hS kw_437 hl.1 dX3_countShownColumns_18 (Nat.le_of_ble_eq_true rfl) hw (fun x3 M2 H locs hw r4 hR hS => ?_)
      have r5 := inR_ite (c := x3 = 0) (inR_c (a := 0) rfl) (inR_c (a := 1) rfl)
      refine cut_j (A := ∀ v6 : Int, v6 = (if x3 = 0 then (0 : Int) else 1) → WI p l e 1 s m args below meth c G e0 α κ B Qm H locs 29 ls [.int (Int32.ofInt v6), .int (Int32.ofInt y1)]) (fun J7 => ?_) ?_
      · refine sa_if_eq (tgt := 28) X.1 r4 dX3_countShownColumns_21 (by decide) (fun hc => ?_) (fun hc => ?_)
        · skip
          refine sa_const X.1 dX3_countShownColumns_28 ?_
          exact J7 (0) (if_pos (c := x3 = 0) hc).symm
        · skip
          refine sa_const X.1 dX3_countShownColumns_24 ?_
          refine lv_goto (tgt := 29) X.1.1 X.1.2.1 dX3_countShownColumns_25 (by decide) ?_
          exact J7 (1) (if_neg (c := x3 = 0) hc).symm
      intro v6 hv6
      subst hv6
      have c8 := hw.1
      have hw := hw.2
      refine sa_iadd X.1 dX3_countShownColumns_29 ?_
      refine lv_istore_n (lv' := [(1, .int (Int32.ofInt (y1 + (if x3 = 0 then (0 : Int) else 1)))), (0, .ref (α 4 0)), (2, .int (Int32.ofInt y2))]) X.1.1 X.1.2.1 dX3_countShownColumns_30 rfl hl (by decide) rfl (fun ls hl => ?_)
      have c9 := hw.1
      have hw := hw.2
      refine lv_iinc (v := Int32.ofInt (y2 + 1)) (lv' := [(2, .int (Int32.ofInt (y2 + 1))), (1, .int (Int32.ofInt (y1 + (if x3 = 0 then (0 : Int) else 1)))), (0, .ref (α 4 0))]) X.1.1 X.1.2.1 dX3_countShownColumns_31 hl (k := 2) rfl (Int32.ofInt_add _ _).symm (by decide) rfl (fun ls hl => ?_)
      refine lv_goto (tgt := 4) X.1.1 X.1.2.1 dX3_countShownColumns_34 (by decide) ?_
      exact ih _ _ _ hw c8 c9 _ _ hR hS _ (lv_sub hl [2, 1, 0] rfl)
set_option maxHeartbeats 4000000 in
set_option maxRecDepth 100000 in
theorem t_X3_countShownColumns (X : CX p m c cX3_countShownColumns 3 s args RX3 G B κ meth (some .int)) {M : Mem} {Qm : Int → Mem → Prop} (hw : wp_X3_countShownColumns M Qm) (H : Heap) (locs : List Loc) (hR : Rp G e0 α κ B M H) (hS : va_S (fun q => B ≤ q) s.heap H locs) (ls : Array Slot) (hl : lv_has ls 3 [(0, .ref (α 4 0))]) : WI p l e 1 s m args below meth c G e0 α κ B Qm H locs 0 ls [] := by
  have hw : (∃ n10 : Nat, wp_X3_countShownColumns_4 Qm n10 0 0 M) := hw
  refine sa_const X.1 dX3_countShownColumns_0 ?_
  refine lv_istore_n (lv' := [(1, .int (Int32.ofInt 0)), (0, .ref (α 4 0))]) X.1.1 X.1.2.1 dX3_countShownColumns_1 rfl hl (by decide) rfl (fun ls hl => ?_)
  refine sa_const X.1 dX3_countShownColumns_2 ?_
  refine lv_istore_n (lv' := [(2, .int (Int32.ofInt 0)), (1, .int (Int32.ofInt 0)), (0, .ref (α 4 0))]) X.1.1 X.1.2.1 dX3_countShownColumns_3 rfl hl (by decide) rfl (fun ls hl => ?_)
  obtain ⟨n10, hw⟩ := hw
  exact t_X3_countShownColumns_4 X n10 _ _ _ hw (inR_c (a := 0) rfl) (inR_c (a := 0) rfl) _ _ hR hS _ (lv_sub hl [2, 1, 0] rfl)
theorem m_X3_countShownColumns {l : Launch} {G : Gx} {e0 : Nat} {α : Ax} {κ : Nat → Int} {B : Nat} (hκ : kOK κ) {M : Mem} {Qm : Int → Mem → Prop} (hw : wp_X3_countShownColumns M Qm) : CI l yX3_countShownColumns (Cond.code yX3_countShownColumns cX3_countShownColumns 3 (some .int)) 1 G e0 α κ B [.ref (α 4 0)] M Qm :=
  CI.mk hκ (by decide +kernel) rfl (Nat.le_of_ble_eq_true rfl) (lv := [(0, .ref (α 4 0))]) rfl (fun p e s m args below meth c ls X hR hS hl => t_X3_countShownColumns X hw _ _ hR hS ls hl)
theorem cs_X3_countShownColumns {cc : ByteArray} {nL : Nat} {own : String} {ret : Option FieldType} {idx pc : Nat} (X : CX p m c cc nL s args own G B κ meth ret) {kc : Nat} {R : Room} {cells slots : Nat} (hRr : RmOK R kc) (hcel : cells ≤ R.cells ∧ slots ≤ R.slots) (hk : 1 + 1 ≤ kc) {M : Mem} {H : Heap} {locs : List Loc} (hR : Rp G e0 α κ B M H) (hS : va_S (fun q => B ≤ q) s.heap H locs) (k1 : Cond.methodLink own idx yX3_countShownColumns ∈ gw) {ls : Array Slot} (hml : ls.size = nL) {rest : List Value} (hd : decode cc pc = .ok (.invokevirtual idx, 3)) (hrest : (rest.map fun v => v.category).sum ≤ 8) {Q : State → Prop} {Qm : Int → Mem → Prop} (hw : wp_X3_countShownColumns M Qm) (kk : ∀ (r : Int) (M1 : Mem) (H1 : Heap) (locs1 : List Loc), Qm r M1 → inR r → Rp G e0 α κ B M1 H1 → va_S (fun q => B ≤ q) s.heap H1 locs1 → W p l e R s m args below meth c H1 locs1 cells slots Q (F0 m (pc + 3) ls (.int (Int32.ofInt r) :: rest))) : W p l e R s m args below meth c H locs cells slots Q (F0 m pc ls (.ref (α 4 0) :: rest)) :=
  sa_callVI 1 (n := 0) (As := []) (rest := rest) X.1 X.2.1 hR hS (m_X3_countShownColumns X.2.2.1 hw) k1 kw_482 kw_483 kw_39 kw_484 ⟨rfl, by decide +kernel, by decide +kernel, by decide +kernel⟩ (rm_ok hRr hk (by decide)) (rc_4 X hR (okf X.2.2.1 rfl)) rfl rfl hrest hml hd hcel kk
def wp_X3_countShown_7 (u1 : Int) (Qm : Int → Mem → Prop) : Nat → Int → Int → Mem → Prop
  | 0 => fun _ _ _ => False
  | n + 1 => fun y2 y3 M => (inR ((M 1 u1 1) + (M 1 u1 3))) ∧ ((((M 1 u1 1) + (M 1 u1 3)) ≤ y3 → Qm y2 M) ∧ (y3 < ((M 1 u1 1) + (M 1 u1 3)) → wp_X3_isShown y3 M fun (x6 : Int) (M5 : Mem) => (inR (y2 + (if x6 = 0 then (0 : Int) else 1))) ∧ (inR (y3 + 1)) ∧ wp_X3_countShown_7 u1 Qm n (y2 + (if x6 = 0 then (0 : Int) else 1)) (y3 + 1) M5))
def wp_X3_countShown (u1 : Int) (M : Mem) (Qm : Int → Mem → Prop) : Prop := (∃ n13 : Nat, wp_X3_countShown_7 u1 Qm n13 0 (M 1 u1 1) M)
set_option maxHeartbeats 4000000 in
set_option maxRecDepth 100000 in
theorem t_X3_countShown_7 {u1 : Int} (X : CX p m c cX3_countShown 4 s args RX3 G B κ meth (some .int)) (hu1 : okk κ 1 u1) {Qm : Int → Mem → Prop} : ∀ n : Nat, ∀ y2 : Int, ∀ y3 : Int, ∀ M : Mem, wp_X3_countShown_7 u1 Qm n y2 y3 M → inR y2 → inR y3 → ∀ (H : Heap) (locs : List Loc), Rp G e0 α κ B M H → va_S (fun q => B ≤ q) s.heap H locs → ∀ (ls : Array Slot), lv_has ls 4 [(0, .ref (α 4 0)), (1, .ref (α 1 u1)), (2, .int (Int32.ofInt y2)), (3, .int (Int32.ofInt y3))] → WI p l e 1 s m args below meth c G e0 α κ B Qm H locs 7 ls [] := by
  intro n
  induction n with
  | zero =>
    intro y2 y3 M hw hy2 hy3 H locs hR hS ls hl
    exact hw.elim
  | succ n ih =>
    intro y2 y3 M hw hy2 hy3 H locs hR hS ls hl
    have hw : (inR ((M 1 u1 1) + (M 1 u1 3))) ∧ ((((M 1 u1 1) + (M 1 u1 3)) ≤ y3 → Qm y2 M) ∧ (y3 < ((M 1 u1 1) + (M 1 u1 3)) → wp_X3_isShown y3 M fun (x6 : Int) (M5 : Mem) => (inR (y2 + (if x6 = 0 then (0 : Int) else 1))) ∧ (inR (y3 + 1)) ∧ wp_X3_countShown_7 u1 Qm n (y2 + (if x6 = 0 then (0 : Int) else 1)) (y3 + 1) M5)) := hw
    refine lv_iload_n X.1.1 X.1.2.1 dX3_countShown_7 rfl (lv_at hl 3 rfl) ?_
    refine lv_aload_n X.1.1 X.1.2.1 dX3_countShown_8 rfl (lv_at hl 1 rfl) ?_
    refine gt_1_1 X hR hu1 kw_989 dX3_countShown_9 ?_
    have r2 := hR.r 1 u1 1
    refine lv_aload_n X.1.1 X.1.2.1 dX3_countShown_12 rfl (lv_at hl 1 rfl) ?_
    refine gt_1_3 X hR hu1 kw_998 dX3_countShown_13 ?_
    have r3 := hR.r 1 u1 3
    have c4 := hw.1
    have hw := hw.2
    refine sa_iadd X.1 dX3_countShown_16 ?_
    refine sa_icmp_ge (tgt := 42) X.1 hy3 c4 dX3_countShown_17 (by decide) (fun hc => ?_) (fun hc => ?_)
    · have hw := hw.1 hc
      refine lv_iload_n X.1.1 X.1.2.1 dX3_countShown_42 rfl (lv_at hl 2 rfl) ?_
      exact sa_iret X.1 X.2.2.2.1 X.2.2.2.2 hR hS hy2 hw dX3_countShown_43
    · have hw := hw.2 hc
      refine lv_iload_n X.1.1 X.1.2.1 dX3_countShown_20 rfl (lv_at hl 2 rfl) ?_
      refine lv_aload_n X.1.1 X.1.2.1 dX3_countShown_21 rfl (lv_at hl 0 rfl) ?_
      refine lv_iload_n X.1.1 X.1.2.1 dX3_countShown_22 rfl (lv_at hl 3 rfl) ?_
      refine cs_X3_isShown X hy3 (kc := 1) rmL_ok rm_c (by decide) hR hS kw_437 hl.1 dX3_countShown_23 (Nat.le_of_ble_eq_true rfl) hw (fun x6 M5 H locs hw r7 hR hS => ?_)
      have r8 := inR_ite (c := x6 = 0) (inR_c (a := 0) rfl) (inR_c (a := 1) rfl)
      refine cut_j (A := ∀ v9 : Int, v9 = (if x6 = 0 then (0 : Int) else 1) → WI p l e 1 s m args below meth c G e0 α κ B Qm H locs 34 ls [.int (Int32.ofInt v9), .int (Int32.ofInt y2)]) (fun J10 => ?_) ?_
      · refine sa_if_eq (tgt := 33) X.1 r7 dX3_countShown_26 (by decide) (fun hc => ?_) (fun hc => ?_)
        · skip
          refine sa_const X.1 dX3_countShown_33 ?_
          exact J10 (0) (if_pos (c := x6 = 0) hc).symm
        · skip
          refine sa_const X.1 dX3_countShown_29 ?_
          refine lv_goto (tgt := 34) X.1.1 X.1.2.1 dX3_countShown_30 (by decide) ?_
          exact J10 (1) (if_neg (c := x6 = 0) hc).symm
      intro v9 hv9
      subst hv9
      have c11 := hw.1
      have hw := hw.2
      refine sa_iadd X.1 dX3_countShown_34 ?_
      refine lv_istore_n (lv' := [(2, .int (Int32.ofInt (y2 + (if x6 = 0 then (0 : Int) else 1)))), (0, .ref (α 4 0)), (1, .ref (α 1 u1)), (3, .int (Int32.ofInt y3))]) X.1.1 X.1.2.1 dX3_countShown_35 rfl hl (by decide) rfl (fun ls hl => ?_)
      have c12 := hw.1
      have hw := hw.2
      refine lv_iinc (v := Int32.ofInt (y3 + 1)) (lv' := [(3, .int (Int32.ofInt (y3 + 1))), (2, .int (Int32.ofInt (y2 + (if x6 = 0 then (0 : Int) else 1)))), (0, .ref (α 4 0)), (1, .ref (α 1 u1))]) X.1.1 X.1.2.1 dX3_countShown_36 hl (k := 3) rfl (Int32.ofInt_add _ _).symm (by decide) rfl (fun ls hl => ?_)
      refine lv_goto (tgt := 7) X.1.1 X.1.2.1 dX3_countShown_39 (by decide) ?_
      exact ih _ _ _ hw c11 c12 _ _ hR hS _ (lv_sub hl [2, 3, 1, 0] rfl)
set_option maxHeartbeats 4000000 in
set_option maxRecDepth 100000 in
theorem t_X3_countShown {u1 : Int} (X : CX p m c cX3_countShown 4 s args RX3 G B κ meth (some .int)) (hu1 : okk κ 1 u1) {M : Mem} {Qm : Int → Mem → Prop} (hw : wp_X3_countShown u1 M Qm) (H : Heap) (locs : List Loc) (hR : Rp G e0 α κ B M H) (hS : va_S (fun q => B ≤ q) s.heap H locs) (ls : Array Slot) (hl : lv_has ls 4 [(0, .ref (α 4 0)), (1, .ref (α 1 u1))]) : WI p l e 1 s m args below meth c G e0 α κ B Qm H locs 0 ls [] := by
  have hw : (∃ n13 : Nat, wp_X3_countShown_7 u1 Qm n13 0 (M 1 u1 1) M) := hw
  refine sa_const X.1 dX3_countShown_0 ?_
  refine lv_istore_n (lv' := [(2, .int (Int32.ofInt 0)), (0, .ref (α 4 0)), (1, .ref (α 1 u1))]) X.1.1 X.1.2.1 dX3_countShown_1 rfl hl (by decide) rfl (fun ls hl => ?_)
  refine lv_aload_n X.1.1 X.1.2.1 dX3_countShown_2 rfl (lv_at hl 2 rfl) ?_
  refine gt_1_1 X hR hu1 kw_989 dX3_countShown_3 ?_
  have r1 := hR.r 1 u1 1
  refine lv_istore_n (lv' := [(3, .int (Int32.ofInt (M 1 u1 1))), (2, .int (Int32.ofInt 0)), (0, .ref (α 4 0)), (1, .ref (α 1 u1))]) X.1.1 X.1.2.1 dX3_countShown_6 rfl hl (by decide) rfl (fun ls hl => ?_)
  obtain ⟨n13, hw⟩ := hw
  exact t_X3_countShown_7 X hu1 n13 _ _ _ hw (inR_c (a := 0) rfl) r1 _ _ hR hS _ (lv_sub hl [2, 3, 1, 0] rfl)
theorem m_X3_countShown {l : Launch} {G : Gx} {e0 : Nat} {α : Ax} {κ : Nat → Int} {B : Nat} {u1 : Int} (hκ : kOK κ) (hu1 : okk κ 1 u1) {M : Mem} {Qm : Int → Mem → Prop} (hw : wp_X3_countShown u1 M Qm) : CI l yX3_countShown (Cond.code yX3_countShown cX3_countShown 4 (some .int)) 1 G e0 α κ B [.ref (α 4 0), .ref (α 1 u1)] M Qm :=
  CI.mk hκ (by decide +kernel) rfl (Nat.le_of_ble_eq_true rfl) (lv := [(0, .ref (α 4 0)), (1, .ref (α 1 u1))]) rfl (fun p e s m args below meth c ls X hR hS hl => t_X3_countShown X hu1 hw _ _ hR hS ls hl)
theorem cs_X3_countShown {cc : ByteArray} {nL : Nat} {own : String} {ret : Option FieldType} {idx pc : Nat} {u1 : Int} (X : CX p m c cc nL s args own G B κ meth ret) (hu1 : okk κ 1 u1) {kc : Nat} {R : Room} {cells slots : Nat} (hRr : RmOK R kc) (hcel : cells ≤ R.cells ∧ slots ≤ R.slots) (hk : 1 + 1 ≤ kc) {M : Mem} {H : Heap} {locs : List Loc} (hR : Rp G e0 α κ B M H) (hS : va_S (fun q => B ≤ q) s.heap H locs) (k1 : Cond.methodLink own idx yX3_countShown ∈ gw) {ls : Array Slot} (hml : ls.size = nL) {rest : List Value} (hd : decode cc pc = .ok (.invokevirtual idx, 3)) (hrest : (rest.map fun v => v.category).sum ≤ 8) {Q : State → Prop} {Qm : Int → Mem → Prop} (hw : wp_X3_countShown u1 M Qm) (kk : ∀ (r : Int) (M1 : Mem) (H1 : Heap) (locs1 : List Loc), Qm r M1 → inR r → Rp G e0 α κ B M1 H1 → va_S (fun q => B ≤ q) s.heap H1 locs1 → W p l e R s m args below meth c H1 locs1 cells slots Q (F0 m (pc + 3) ls (.int (Int32.ofInt r) :: rest))) : W p l e R s m args below meth c H locs cells slots Q (F0 m pc ls (.ref (α 1 u1) :: .ref (α 4 0) :: rest)) :=
  sa_callVI 1 (n := 1) (As := [.ref (α 1 u1)]) (rest := rest) X.1 X.2.1 hR hS (m_X3_countShown X.2.2.1 hu1 hw) k1 kw_1052 kw_28 kw_39 kw_1053 ⟨rfl, by decide +kernel, by decide +kernel, by decide +kernel⟩ (rm_ok hRr hk (by decide)) (rc_4 X hR (okf X.2.2.1 rfl)) rfl rfl hrest hml hd hcel kk
def wp_X3_hideOrShow_32 (p1 : Int) (Qm : Int → Mem → Prop) : Nat → Int → Mem → Prop
  | 0 => fun _ _ => False
  | n + 1 => fun y2 M => (((M 14 0 (-1)) ≤ y2 → wp_X3_isShown p1 M fun (x3 : Int) (M2 : Mem) => (bit (if ¬ x3 = 0 then (0 : Int) else 1)) ∧ Qm (if ¬ x3 = 0 then (0 : Int) else 1) M2) ∧ (y2 < (M 14 0 (-1)) → (0 ≤ y2 ∧ y2 < M 14 0 (-1)) ∧ (0 ≤ y2 ∧ y2 < M 14 0 (-1)) ∧ wp_X3_countShown (M 14 0 y2) M fun (x14 : Int) (M13 : Mem) => ∀ M16 : Mem, M16 = up M13 1 (M 14 0 y2) 12 x14 → (inR (y2 + 1)) ∧ wp_X3_hideOrShow_32 p1 Qm n (y2 + 1) M16))
def wp_X3_hideOrShow_30 (p1 : Int) (Qm : Int → Mem → Prop) (M : Mem) : Prop := (∃ n19 : Nat, wp_X3_hideOrShow_32 p1 Qm n19 0 M)
def wp_X3_hideOrShow (p1 : Int) (M : Mem) (Qm : Int → Mem → Prop) : Prop := ((p1 < 0 → wp_X3_hideOrShow_30 p1 Qm M) ∧ (0 ≤ p1 → ((6 ≤ p1 → wp_X3_hideOrShow_30 p1 Qm M) ∧ (p1 < 6 → (0 ≤ p1 ∧ p1 < 6) ∧ (bit (if ¬ (M 33 0 p1) = 0 then (0 : Int) else 1)) ∧ (0 ≤ p1 ∧ p1 < 6) ∧ ∀ M27 : Mem, M27 = up M 33 0 p1 (if ¬ (M 33 0 p1) = 0 then (0 : Int) else 1) → wp_X3_hideOrShow_30 p1 Qm M27))))
set_option maxHeartbeats 4000000 in
set_option maxRecDepth 100000 in
theorem t_X3_hideOrShow_32 {p1 : Int} (X : CX p m c cX3_hideOrShow 3 s args RX3 G B κ meth (some .boolean)) (hp1 : inR p1) {Qm : Int → Mem → Prop} : ∀ n : Nat, ∀ y2 : Int, ∀ M : Mem, wp_X3_hideOrShow_32 p1 Qm n y2 M → inR y2 → ∀ (H : Heap) (locs : List Loc), Rp G e0 α κ B M H → va_S (fun q => B ≤ q) s.heap H locs → ∀ (ls : Array Slot), lv_has ls 3 [(0, .ref (α 4 0)), (1, .int (Int32.ofInt p1)), (2, .int (Int32.ofInt y2))] → WI p l e 3 s m args below meth c G e0 α κ B Qm H locs 32 ls [] := by
  intro n
  induction n with
  | zero =>
    intro y2 M hw hy2 H locs hR hS ls hl
    exact hw.elim
  | succ n ih =>
    intro y2 M hw hy2 H locs hR hS ls hl
    have hw : (((M 14 0 (-1)) ≤ y2 → wp_X3_isShown p1 M fun (x3 : Int) (M2 : Mem) => (bit (if ¬ x3 = 0 then (0 : Int) else 1)) ∧ Qm (if ¬ x3 = 0 then (0 : Int) else 1) M2) ∧ (y2 < (M 14 0 (-1)) → (0 ≤ y2 ∧ y2 < M 14 0 (-1)) ∧ (0 ≤ y2 ∧ y2 < M 14 0 (-1)) ∧ wp_X3_countShown (M 14 0 y2) M fun (x14 : Int) (M13 : Mem) => ∀ M16 : Mem, M16 = up M13 1 (M 14 0 y2) 12 x14 → (inR (y2 + 1)) ∧ wp_X3_hideOrShow_32 p1 Qm n (y2 + 1) M16)) := hw
    refine lv_iload_n X.1.1 X.1.2.1 dX3_hideOrShow_32 rfl (lv_at hl 2 rfl) ?_
    refine lv_aload_n X.1.1 X.1.2.1 dX3_hideOrShow_33 rfl (lv_at hl 0 rfl) ?_
    refine gt_4_2 X hR (okf X.2.2.1 rfl) kw_118 dX3_hideOrShow_34 ?_
    refine ls_size (by decide) (by decide) X (kc := 3) rmL_ok rm_c (by decide) hR hS kw_441 hl.1 dX3_hideOrShow_37 (Nat.le_of_ble_eq_true rfl) (fun H locs hR hS => ?_)
    have r1 := hR.r 14 0 (-1)
    refine sa_icmp_ge (tgt := 78) X.1 hy2 r1 dX3_hideOrShow_40 (by decide) (fun hc => ?_) (fun hc => ?_)
    · have hw := hw.1 hc
      refine lv_aload_n X.1.1 X.1.2.1 dX3_hideOrShow_78 rfl (lv_at hl 0 rfl) ?_
      refine lv_iload_n X.1.1 X.1.2.1 dX3_hideOrShow_79 rfl (lv_at hl 1 rfl) ?_
      refine cs_X3_isShown X hp1 (kc := 3) rmL_ok rm_c (by decide) hR hS kw_437 hl.1 dX3_hideOrShow_80 (Nat.le_of_ble_eq_true rfl) hw (fun x3 M2 H locs hw r4 hR hS => ?_)
      have r5 := inR_ite (c := ¬ x3 = 0) (inR_c (a := 0) rfl) (inR_c (a := 1) rfl)
      refine cut_j (A := ∀ v6 : Int, v6 = (if ¬ x3 = 0 then (0 : Int) else 1) → WI p l e 3 s m args below meth c G e0 α κ B Qm H locs 91 ls [.int (Int32.ofInt v6)]) (fun J7 => ?_) ?_
      · refine sa_if_ne (tgt := 90) X.1 r4 dX3_hideOrShow_83 (by decide) (fun hc => ?_) (fun hc => ?_)
        · skip
          refine sa_const X.1 dX3_hideOrShow_90 ?_
          exact J7 (0) (if_pos (c := ¬ x3 = 0) hc).symm
        · skip
          refine sa_const X.1 dX3_hideOrShow_86 ?_
          refine lv_goto (tgt := 91) X.1.1 X.1.2.1 dX3_hideOrShow_87 (by decide) ?_
          exact J7 (1) (if_neg (c := ¬ x3 = 0) (fun z => z hc)).symm
      intro v6 hv6
      subst hv6
      have c8 := hw.1
      have hw := hw.2
      exact sa_zret X.1 X.2.2.2.1 X.2.2.2.2 hR hS c8 hw dX3_hideOrShow_91
    · have hw := hw.2 hc
      refine lv_aload_n X.1.1 X.1.2.1 dX3_hideOrShow_43 rfl (lv_at hl 0 rfl) ?_
      refine gt_4_2 X hR (okf X.2.2.1 rfl) kw_118 dX3_hideOrShow_44 ?_
      refine lv_iload_n X.1.1 X.1.2.1 dX3_hideOrShow_47 rfl (lv_at hl 2 rfl) ?_
      have c9 := hw.1
      have hw := hw.2
      refine ls_get (ci := 1) (by decide) (by decide) rfl X c9 (kc := 3) rmL_ok rm_c (by decide) hR hS kw_442 hl.1 dX3_hideOrShow_48 (Nat.le_of_ble_eq_true rfl) (fun H locs o10 hR hS => ?_)
      refine ck_1 X hR o10 kw_653 dX3_hideOrShow_51 ?_
      refine lv_aload_n X.1.1 X.1.2.1 dX3_hideOrShow_54 rfl (lv_at hl 0 rfl) ?_
      refine lv_aload_n X.1.1 X.1.2.1 dX3_hideOrShow_55 rfl (lv_at hl 0 rfl) ?_
      refine gt_4_2 X hR (okf X.2.2.1 rfl) kw_118 dX3_hideOrShow_56 ?_
      refine lv_iload_n X.1.1 X.1.2.1 dX3_hideOrShow_59 rfl (lv_at hl 2 rfl) ?_
      have c11 := hw.1
      have hw := hw.2
      refine ls_get (ci := 1) (by decide) (by decide) rfl X c11 (kc := 3) rmL_ok rm_c (by decide) hR hS kw_442 hl.1 dX3_hideOrShow_60 (Nat.le_of_ble_eq_true rfl) (fun H locs o12 hR hS => ?_)
      refine ck_1 X hR o12 kw_653 dX3_hideOrShow_63 ?_
      refine cs_X3_countShown X o12 (kc := 3) rmL_ok rm_c (by decide) hR hS kw_1050 hl.1 dX3_hideOrShow_66 (Nat.le_of_ble_eq_true rfl) hw (fun x14 M13 H locs hw r15 hR hS => ?_)
      refine pt_1_12 X hR hS o10 r15 kw_1018 dX3_hideOrShow_69 (fun H locs hR hS => ?_)
      obtain ⟨M16, e17⟩ : ∃ z : Mem, z = up M13 1 (M 14 0 y2) 12 x14 := ⟨_, rfl⟩
      rw [← e17] at hR
      have hw := hw M16 e17
      have c18 := hw.1
      have hw := hw.2
      refine lv_iinc (v := Int32.ofInt (y2 + 1)) (lv' := [(2, .int (Int32.ofInt (y2 + 1))), (0, .ref (α 4 0)), (1, .int (Int32.ofInt p1))]) X.1.1 X.1.2.1 dX3_hideOrShow_72 hl (k := 2) rfl (Int32.ofInt_add _ _).symm (by decide) rfl (fun ls hl => ?_)
      refine lv_goto (tgt := 32) X.1.1 X.1.2.1 dX3_hideOrShow_75 (by decide) ?_
      exact ih _ _ hw c18 _ _ hR hS _ (lv_sub hl [1, 2, 0] rfl)
set_option maxHeartbeats 4000000 in
set_option maxRecDepth 100000 in
theorem t_X3_hideOrShow_30 {p1 : Int} (X : CX p m c cX3_hideOrShow 3 s args RX3 G B κ meth (some .boolean)) (hp1 : inR p1) {Qm : Int → Mem → Prop} : ∀ M : Mem, wp_X3_hideOrShow_30 p1 Qm M → ∀ (H : Heap) (locs : List Loc), Rp G e0 α κ B M H → va_S (fun q => B ≤ q) s.heap H locs → ∀ (ls : Array Slot), lv_has ls 3 [(0, .ref (α 4 0)), (1, .int (Int32.ofInt p1))] → WI p l e 3 s m args below meth c G e0 α κ B Qm H locs 30 ls [] := by
  intro M hw H locs hR hS ls hl
  have hw : (∃ n19 : Nat, wp_X3_hideOrShow_32 p1 Qm n19 0 M) := hw
  refine sa_const X.1 dX3_hideOrShow_30 ?_
  refine lv_istore_n (lv' := [(2, .int (Int32.ofInt 0)), (0, .ref (α 4 0)), (1, .int (Int32.ofInt p1))]) X.1.1 X.1.2.1 dX3_hideOrShow_31 rfl hl (by decide) rfl (fun ls hl => ?_)
  obtain ⟨n19, hw⟩ := hw
  exact t_X3_hideOrShow_32 X hp1 n19 _ _ hw (inR_c (a := 0) rfl) _ _ hR hS _ (lv_sub hl [1, 2, 0] rfl)
set_option maxHeartbeats 4000000 in
set_option maxRecDepth 100000 in
theorem t_X3_hideOrShow {p1 : Int} (X : CX p m c cX3_hideOrShow 3 s args RX3 G B κ meth (some .boolean)) (hp1 : inR p1) {M : Mem} {Qm : Int → Mem → Prop} (hw : wp_X3_hideOrShow p1 M Qm) (H : Heap) (locs : List Loc) (hR : Rp G e0 α κ B M H) (hS : va_S (fun q => B ≤ q) s.heap H locs) (ls : Array Slot) (hl : lv_has ls 3 [(0, .ref (α 4 0)), (1, .int (Int32.ofInt p1))]) : WI p l e 3 s m args below meth c G e0 α κ B Qm H locs 0 ls [] := by
  have hw : ((p1 < 0 → wp_X3_hideOrShow_30 p1 Qm M) ∧ (0 ≤ p1 → ((6 ≤ p1 → wp_X3_hideOrShow_30 p1 Qm M) ∧ (p1 < 6 → (0 ≤ p1 ∧ p1 < 6) ∧ (bit (if ¬ (M 33 0 p1) = 0 then (0 : Int) else 1)) ∧ (0 ≤ p1 ∧ p1 < 6) ∧ ∀ M27 : Mem, M27 = up M 33 0 p1 (if ¬ (M 33 0 p1) = 0 then (0 : Int) else 1) → wp_X3_hideOrShow_30 p1 Qm M27)))) := hw
  refine lv_iload_n X.1.1 X.1.2.1 dX3_hideOrShow_0 rfl (lv_at hl 1 rfl) ?_
  refine sa_if_lt (tgt := 30) X.1 hp1 dX3_hideOrShow_1 (by decide) (fun hc => ?_) (fun hc => ?_)
  · have hw := hw.1 hc
    exact t_X3_hideOrShow_30 X hp1 _ hw _ _ hR hS _ (lv_sub hl [0, 1] rfl)
  · have hw := hw.2 hc
    refine lv_iload_n X.1.1 X.1.2.1 dX3_hideOrShow_4 rfl (lv_at hl 1 rfl) ?_
    refine sa_bipush X.1 dX3_hideOrShow_5 (by decide) ?_
    refine sa_icmp_ge (tgt := 30) X.1 hp1 (inR_c (a := 6) rfl) dX3_hideOrShow_7 (by decide) (fun hc => ?_) (fun hc => ?_)
    · have hw := hw.1 hc
      exact t_X3_hideOrShow_30 X hp1 _ hw _ _ hR hS _ (lv_sub hl [0, 1] rfl)
    · have hw := hw.2 hc
      refine lv_aload_n X.1.1 X.1.2.1 dX3_hideOrShow_10 rfl (lv_at hl 0 rfl) ?_
      refine gt_4_6 X hR (okf X.2.2.1 rfl) kw_128 dX3_hideOrShow_11 ?_
      refine lv_iload_n X.1.1 X.1.2.1 dX3_hideOrShow_14 rfl (lv_at hl 1 rfl) ?_
      refine lv_aload_n X.1.1 X.1.2.1 dX3_hideOrShow_15 rfl (lv_at hl 0 rfl) ?_
      refine gt_4_6 X hR (okf X.2.2.1 rfl) kw_128 dX3_hideOrShow_16 ?_
      refine lv_iload_n X.1.1 X.1.2.1 dX3_hideOrShow_19 rfl (lv_at hl 1 rfl) ?_
      have c20 := hw.1
      have hw := hw.2
      refine ra_33 X hR (okf X.2.2.1 rfl) c20 dX3_hideOrShow_20 ?_
      have r21 := hR.r 33 0 p1
      have r22 := inR_ite (c := ¬ (M 33 0 p1) = 0) (inR_c (a := 0) rfl) (inR_c (a := 1) rfl)
      refine cut_j (A := ∀ v23 : Int, v23 = (if ¬ (M 33 0 p1) = 0 then (0 : Int) else 1) → WI p l e 3 s m args below meth c G e0 α κ B Qm H locs 29 ls [.int (Int32.ofInt v23), .int (Int32.ofInt p1), .ref (α 33 0)]) (fun J24 => ?_) ?_
      · refine sa_if_ne (tgt := 28) X.1 r21 dX3_hideOrShow_21 (by decide) (fun hc => ?_) (fun hc => ?_)
        · skip
          refine sa_const X.1 dX3_hideOrShow_28 ?_
          exact J24 (0) (if_pos (c := ¬ (M 33 0 p1) = 0) hc).symm
        · skip
          refine sa_const X.1 dX3_hideOrShow_24 ?_
          refine lv_goto (tgt := 29) X.1.1 X.1.2.1 dX3_hideOrShow_25 (by decide) ?_
          exact J24 (1) (if_neg (c := ¬ (M 33 0 p1) = 0) (fun z => z hc)).symm
      intro v23 hv23
      subst hv23
      have c25 := hw.1
      have hw := hw.2
      have c26 := hw.1
      have hw := hw.2
      refine wa_33 X hR hS (okf X.2.2.1 rfl) c26 c25 dX3_hideOrShow_29 (fun H locs hR hS => ?_)
      obtain ⟨M27, e28⟩ : ∃ z : Mem, z = up M 33 0 p1 (if ¬ (M 33 0 p1) = 0 then (0 : Int) else 1) := ⟨_, rfl⟩
      rw [← e28] at hR
      have hw := hw M27 e28
      exact t_X3_hideOrShow_30 X hp1 _ hw _ _ hR hS _ (lv_sub hl [0, 1] rfl)
theorem m_X3_hideOrShow {l : Launch} {G : Gx} {e0 : Nat} {α : Ax} {κ : Nat → Int} {B : Nat} {p1 : Int} (hκ : kOK κ) (hp1 : inR p1) {M : Mem} {Qm : Int → Mem → Prop} (hw : wp_X3_hideOrShow p1 M Qm) : CI l yX3_hideOrShow (Cond.code yX3_hideOrShow cX3_hideOrShow 3 (some .boolean)) 3 G e0 α κ B [.ref (α 4 0), .int (Int32.ofInt p1)] M Qm :=
  CI.mk hκ (by decide +kernel) rfl (Nat.le_of_ble_eq_true rfl) (lv := [(0, .ref (α 4 0)), (1, .int (Int32.ofInt p1))]) rfl (fun p e s m args below meth c ls X hR hS hl => t_X3_hideOrShow X hp1 hw _ _ hR hS ls hl)
theorem cs_X3_hideOrShow {cc : ByteArray} {nL : Nat} {own : String} {ret : Option FieldType} {idx pc : Nat} {p1 : Int} (X : CX p m c cc nL s args own G B κ meth ret) (hp1 : inR p1) {kc : Nat} {R : Room} {cells slots : Nat} (hRr : RmOK R kc) (hcel : cells ≤ R.cells ∧ slots ≤ R.slots) (hk : 3 + 1 ≤ kc) {M : Mem} {H : Heap} {locs : List Loc} (hR : Rp G e0 α κ B M H) (hS : va_S (fun q => B ≤ q) s.heap H locs) (k1 : Cond.methodLink own idx yX3_hideOrShow ∈ gw) {ls : Array Slot} (hml : ls.size = nL) {rest : List Value} (hd : decode cc pc = .ok (.invokevirtual idx, 3)) (hrest : (rest.map fun v => v.category).sum ≤ 8) {Q : State → Prop} {Qm : Int → Mem → Prop} (hw : wp_X3_hideOrShow p1 M Qm) (kk : ∀ (r : Int) (M1 : Mem) (H1 : Heap) (locs1 : List Loc), Qm r M1 → inR r → Rp G e0 α κ B M1 H1 → va_S (fun q => B ≤ q) s.heap H1 locs1 → W p l e R s m args below meth c H1 locs1 cells slots Q (F0 m (pc + 3) ls (.int (Int32.ofInt r) :: rest))) : W p l e R s m args below meth c H locs cells slots Q (F0 m pc ls (.int (Int32.ofInt p1) :: .ref (α 4 0) :: rest)) :=
  sa_callVI 3 (n := 1) (As := [.int (Int32.ofInt p1)]) (rest := rest) X.1 X.2.1 hR hS (m_X3_hideOrShow X.2.2.1 hp1 hw) k1 kw_1193 kw_1194 kw_39 kw_1195 ⟨rfl, by decide +kernel, by decide +kernel, by decide +kernel⟩ (rm_ok hRr hk (by decide)) (rc_4 X hR (okf X.2.2.1 rfl)) rfl rfl hrest hml hd hcel kk
def wp_X3_isTotalled_40 (p1 : Int) (Qm : Int → Mem → Prop) (M : Mem) : Prop := Qm 0 M
def wp_X3_isTotalled (p1 : Int) (M : Mem) (Qm : Int → Mem → Prop) : Prop := wp_X3_isShown p1 M fun (x2 : Int) (M1 : Mem) => ((x2 = 0 → wp_X3_isTotalled_40 p1 Qm M1) ∧ (¬ x2 = 0 → (((M1 12 0 (-1)) ≤ p1 → wp_X3_isTotalled_40 p1 Qm M1) ∧ (p1 < (M1 12 0 (-1)) → (0 ≤ p1 ∧ p1 < M1 12 0 (-1)) ∧ (bit (if (M1 2 (M1 12 0 p1) 3) = 0 then (0 : Int) else 1)) ∧ Qm (if (M1 2 (M1 12 0 p1) 3) = 0 then (0 : Int) else 1) M1))))
set_option maxHeartbeats 4000000 in
set_option maxRecDepth 100000 in
theorem t_X3_isTotalled_40 {p1 : Int} (X : CX p m c cX3_isTotalled 2 s args RX3 G B κ meth (some .boolean)) (hp1 : inR p1) {Qm : Int → Mem → Prop} : ∀ M : Mem, wp_X3_isTotalled_40 p1 Qm M → ∀ (H : Heap) (locs : List Loc), Rp G e0 α κ B M H → va_S (fun q => B ≤ q) s.heap H locs → ∀ (ls : Array Slot), lv_has ls 2 [] → WI p l e 3 s m args below meth c G e0 α κ B Qm H locs 40 ls [] := by
  intro M hw H locs hR hS ls hl
  have hw : Qm 0 M := hw
  refine sa_const X.1 dX3_isTotalled_40 ?_
  exact sa_zret X.1 X.2.2.2.1 X.2.2.2.2 hR hS (Or.inl rfl) hw dX3_isTotalled_41
set_option maxHeartbeats 4000000 in
set_option maxRecDepth 100000 in
theorem t_X3_isTotalled {p1 : Int} (X : CX p m c cX3_isTotalled 2 s args RX3 G B κ meth (some .boolean)) (hp1 : inR p1) {M : Mem} {Qm : Int → Mem → Prop} (hw : wp_X3_isTotalled p1 M Qm) (H : Heap) (locs : List Loc) (hR : Rp G e0 α κ B M H) (hS : va_S (fun q => B ≤ q) s.heap H locs) (ls : Array Slot) (hl : lv_has ls 2 [(0, .ref (α 4 0)), (1, .int (Int32.ofInt p1))]) : WI p l e 3 s m args below meth c G e0 α κ B Qm H locs 0 ls [] := by
  have hw : wp_X3_isShown p1 M fun (x2 : Int) (M1 : Mem) => ((x2 = 0 → wp_X3_isTotalled_40 p1 Qm M1) ∧ (¬ x2 = 0 → (((M1 12 0 (-1)) ≤ p1 → wp_X3_isTotalled_40 p1 Qm M1) ∧ (p1 < (M1 12 0 (-1)) → (0 ≤ p1 ∧ p1 < M1 12 0 (-1)) ∧ (bit (if (M1 2 (M1 12 0 p1) 3) = 0 then (0 : Int) else 1)) ∧ Qm (if (M1 2 (M1 12 0 p1) 3) = 0 then (0 : Int) else 1) M1)))) := hw
  refine lv_aload_n X.1.1 X.1.2.1 dX3_isTotalled_0 rfl (lv_at hl 0 rfl) ?_
  refine lv_iload_n X.1.1 X.1.2.1 dX3_isTotalled_1 rfl (lv_at hl 1 rfl) ?_
  refine cs_X3_isShown X hp1 (kc := 3) rmL_ok rm_c (by decide) hR hS kw_437 hl.1 dX3_isTotalled_2 (Nat.le_of_ble_eq_true rfl) hw (fun x2 M1 H locs hw r3 hR hS => ?_)
  refine sa_if_eq (tgt := 40) X.1 r3 dX3_isTotalled_5 (by decide) (fun hc => ?_) (fun hc => ?_)
  · have hw := hw.1 hc
    exact t_X3_isTotalled_40 X hp1 _ hw _ _ hR hS _ (lv_sub hl [] rfl)
  · have hw := hw.2 hc
    refine lv_iload_n X.1.1 X.1.2.1 dX3_isTotalled_8 rfl (lv_at hl 1 rfl) ?_
    refine lv_aload_n X.1.1 X.1.2.1 dX3_isTotalled_9 rfl (lv_at hl 0 rfl) ?_
    refine gt_4_0 X hR (okf X.2.2.1 rfl) kw_112 dX3_isTotalled_10 ?_
    refine ls_size (by decide) (by decide) X (kc := 3) rmL_ok rm_c (by decide) hR hS kw_441 hl.1 dX3_isTotalled_13 (Nat.le_of_ble_eq_true rfl) (fun H locs hR hS => ?_)
    have r4 := hR.r 12 0 (-1)
    refine sa_icmp_ge (tgt := 40) X.1 hp1 r4 dX3_isTotalled_16 (by decide) (fun hc => ?_) (fun hc => ?_)
    · have hw := hw.1 hc
      exact t_X3_isTotalled_40 X hp1 _ hw _ _ hR hS _ (lv_sub hl [] rfl)
    · have hw := hw.2 hc
      refine lv_aload_n X.1.1 X.1.2.1 dX3_isTotalled_19 rfl (lv_at hl 0 rfl) ?_
      refine gt_4_0 X hR (okf X.2.2.1 rfl) kw_112 dX3_isTotalled_20 ?_
      refine lv_iload_n X.1.1 X.1.2.1 dX3_isTotalled_23 rfl (lv_at hl 1 rfl) ?_
      have c5 := hw.1
      have hw := hw.2
      refine ls_get (ci := 2) (by decide) (by decide) rfl X c5 (kc := 3) rmL_ok rm_c (by decide) hR hS kw_442 hl.1 dX3_isTotalled_24 (Nat.le_of_ble_eq_true rfl) (fun H locs o6 hR hS => ?_)
      refine ck_2 X hR o6 kw_443 dX3_isTotalled_27 ?_
      refine gt_2_3 X hR o6 kw_791 dX3_isTotalled_30 ?_
      have r7 := hR.r 2 (M1 12 0 p1) 3
      have r8 := inR_ite (c := (M1 2 (M1 12 0 p1) 3) = 0) (inR_c (a := 0) rfl) (inR_c (a := 1) rfl)
      refine cut_j (A := ∀ v9 : Int, v9 = (if (M1 2 (M1 12 0 p1) 3) = 0 then (0 : Int) else 1) → WI p l e 3 s m args below meth c G e0 α κ B Qm H locs 41 ls [.int (Int32.ofInt v9)]) (fun J10 => ?_) ?_
      · refine sa_if_eq (tgt := 40) X.1 r7 dX3_isTotalled_33 (by decide) (fun hc => ?_) (fun hc => ?_)
        · skip
          refine sa_const X.1 dX3_isTotalled_40 ?_
          exact J10 (0) (if_pos (c := (M1 2 (M1 12 0 p1) 3) = 0) hc).symm
        · skip
          refine sa_const X.1 dX3_isTotalled_36 ?_
          refine lv_goto (tgt := 41) X.1.1 X.1.2.1 dX3_isTotalled_37 (by decide) ?_
          exact J10 (1) (if_neg (c := (M1 2 (M1 12 0 p1) 3) = 0) hc).symm
      intro v9 hv9
      subst hv9
      have c11 := hw.1
      have hw := hw.2
      exact sa_zret X.1 X.2.2.2.1 X.2.2.2.2 hR hS c11 hw dX3_isTotalled_41
theorem m_X3_isTotalled {l : Launch} {G : Gx} {e0 : Nat} {α : Ax} {κ : Nat → Int} {B : Nat} {p1 : Int} (hκ : kOK κ) (hp1 : inR p1) {M : Mem} {Qm : Int → Mem → Prop} (hw : wp_X3_isTotalled p1 M Qm) : CI l yX3_isTotalled (Cond.code yX3_isTotalled cX3_isTotalled 2 (some .boolean)) 3 G e0 α κ B [.ref (α 4 0), .int (Int32.ofInt p1)] M Qm :=
  CI.mk hκ (by decide +kernel) rfl (Nat.le_of_ble_eq_true rfl) (lv := [(0, .ref (α 4 0)), (1, .int (Int32.ofInt p1))]) rfl (fun p e s m args below meth c ls X hR hS hl => t_X3_isTotalled X hp1 hw _ _ hR hS ls hl)
theorem cs_X3_isTotalled {cc : ByteArray} {nL : Nat} {own : String} {ret : Option FieldType} {idx pc : Nat} {p1 : Int} (X : CX p m c cc nL s args own G B κ meth ret) (hp1 : inR p1) {kc : Nat} {R : Room} {cells slots : Nat} (hRr : RmOK R kc) (hcel : cells ≤ R.cells ∧ slots ≤ R.slots) (hk : 3 + 1 ≤ kc) {M : Mem} {H : Heap} {locs : List Loc} (hR : Rp G e0 α κ B M H) (hS : va_S (fun q => B ≤ q) s.heap H locs) (k1 : Cond.methodLink own idx yX3_isTotalled ∈ gw) {ls : Array Slot} (hml : ls.size = nL) {rest : List Value} (hd : decode cc pc = .ok (.invokevirtual idx, 3)) (hrest : (rest.map fun v => v.category).sum ≤ 8) {Q : State → Prop} {Qm : Int → Mem → Prop} (hw : wp_X3_isTotalled p1 M Qm) (kk : ∀ (r : Int) (M1 : Mem) (H1 : Heap) (locs1 : List Loc), Qm r M1 → inR r → Rp G e0 α κ B M1 H1 → va_S (fun q => B ≤ q) s.heap H1 locs1 → W p l e R s m args below meth c H1 locs1 cells slots Q (F0 m (pc + 3) ls (.int (Int32.ofInt r) :: rest))) : W p l e R s m args below meth c H locs cells slots Q (F0 m pc ls (.int (Int32.ofInt p1) :: .ref (α 4 0) :: rest)) :=
  sa_callVI 3 (n := 1) (As := [.int (Int32.ofInt p1)]) (rest := rest) X.1 X.2.1 hR hS (m_X3_isTotalled X.2.2.1 hp1 hw) k1 kw_434 kw_435 kw_39 kw_436 ⟨rfl, by decide +kernel, by decide +kernel, by decide +kernel⟩ (rm_ok hRr hk (by decide)) (rc_4 X hR (okf X.2.2.1 rfl)) rfl rfl hrest hml hd hcel kk
def wp_X3_totalledColumns_31 (Qm : Int → Mem → Prop) (K4 : Int → Int → Mem → Prop) (y2 : Int) (z0 : Int) (z1 : Int) (M : Mem) : Prop := (inR (y2 + 1)) ∧ K4 (iOr z1 z0) (y2 + 1) M
def wp_X3_totalledColumns_4 (Qm : Int → Mem → Prop) : Nat → Int → Int → Mem → Prop
  | 0 => fun _ _ _ => False
  | n + 1 => fun y1 y2 M => (((M 12 0 (-1)) ≤ y2 → Qm y1 M) ∧ (y2 < (M 12 0 (-1)) → wp_X3_isTotalled y2 M fun (x3 : Int) (M2 : Mem) => ((x3 = 0 → wp_X3_totalledColumns_31 Qm (wp_X3_totalledColumns_4 Qm n) y2 0 y1 M2) ∧ (¬ x3 = 0 → wp_X3_totalledColumns_31 Qm (wp_X3_totalledColumns_4 Qm n) y2 (iShl 1 y2) y1 M2))))
def wp_X3_totalledColumns (M : Mem) (Qm : Int → Mem → Prop) : Prop := (∃ n6 : Nat, wp_X3_totalledColumns_4 Qm n6 0 0 M)
set_option maxHeartbeats 4000000 in
set_option maxRecDepth 100000 in
theorem t_X3_totalledColumns_31 (X : CX p m c cX3_totalledColumns 3 s args RX3 G B κ meth (some .int)) {Qm : Int → Mem → Prop} {K4 : Int → Int → Mem → Prop} (hK4 : ∀ y1 : Int, ∀ y2 : Int, ∀ M : Mem, K4 y1 y2 M → inR y1 → inR y2 → ∀ (H : Heap) (locs : List Loc), Rp G e0 α κ B M H → va_S (fun q => B ≤ q) s.heap H locs → ∀ (ls : Array Slot), lv_has ls 3 [(0, .ref (α 4 0)), (1, .int (Int32.ofInt y1)), (2, .int (Int32.ofInt y2))] → WI p l e 4 s m args below meth c G e0 α κ B Qm H locs 4 ls []) : ∀ y2 : Int, ∀ z0 : Int, ∀ z1 : Int, ∀ M : Mem, wp_X3_totalledColumns_31 Qm K4 y2 z0 z1 M → inR y2 → inR z0 → inR z1 → ∀ (H : Heap) (locs : List Loc), Rp G e0 α κ B M H → va_S (fun q => B ≤ q) s.heap H locs → ∀ (ls : Array Slot), lv_has ls 3 [(0, .ref (α 4 0)), (2, .int (Int32.ofInt y2))] → WI p l e 4 s m args below meth c G e0 α κ B Qm H locs 31 ls [.int (Int32.ofInt z0), .int (Int32.ofInt z1)] := by
  intro y2 z0 z1 M hw hy2 hz0 hz1 H locs hR hS ls hl
  have hw : (inR (y2 + 1)) ∧ K4 (iOr z1 z0) (y2 + 1) M := hw
  refine sa_ior X.1 dX3_totalledColumns_31 ?_
  refine lv_istore_n (lv' := [(1, .int (Int32.ofInt (iOr z1 z0))), (0, .ref (α 4 0)), (2, .int (Int32.ofInt y2))]) X.1.1 X.1.2.1 dX3_totalledColumns_32 rfl hl (by decide) rfl (fun ls hl => ?_)
  have c5 := hw.1
  have hw := hw.2
  refine lv_iinc (v := Int32.ofInt (y2 + 1)) (lv' := [(2, .int (Int32.ofInt (y2 + 1))), (1, .int (Int32.ofInt (iOr z1 z0))), (0, .ref (α 4 0))]) X.1.1 X.1.2.1 dX3_totalledColumns_33 hl (k := 2) rfl (Int32.ofInt_add _ _).symm (by decide) rfl (fun ls hl => ?_)
  refine lv_goto (tgt := 4) X.1.1 X.1.2.1 dX3_totalledColumns_36 (by decide) ?_
  exact hK4 _ _ _ hw (inR_t _) c5 _ _ hR hS _ (lv_sub hl [2, 1, 0] rfl)
set_option maxHeartbeats 4000000 in
set_option maxRecDepth 100000 in
theorem t_X3_totalledColumns_4 (X : CX p m c cX3_totalledColumns 3 s args RX3 G B κ meth (some .int)) {Qm : Int → Mem → Prop} : ∀ n : Nat, ∀ y1 : Int, ∀ y2 : Int, ∀ M : Mem, wp_X3_totalledColumns_4 Qm n y1 y2 M → inR y1 → inR y2 → ∀ (H : Heap) (locs : List Loc), Rp G e0 α κ B M H → va_S (fun q => B ≤ q) s.heap H locs → ∀ (ls : Array Slot), lv_has ls 3 [(0, .ref (α 4 0)), (1, .int (Int32.ofInt y1)), (2, .int (Int32.ofInt y2))] → WI p l e 4 s m args below meth c G e0 α κ B Qm H locs 4 ls [] := by
  intro n
  induction n with
  | zero =>
    intro y1 y2 M hw hy1 hy2 H locs hR hS ls hl
    exact hw.elim
  | succ n ih =>
    intro y1 y2 M hw hy1 hy2 H locs hR hS ls hl
    have hw : (((M 12 0 (-1)) ≤ y2 → Qm y1 M) ∧ (y2 < (M 12 0 (-1)) → wp_X3_isTotalled y2 M fun (x3 : Int) (M2 : Mem) => ((x3 = 0 → wp_X3_totalledColumns_31 Qm (wp_X3_totalledColumns_4 Qm n) y2 0 y1 M2) ∧ (¬ x3 = 0 → wp_X3_totalledColumns_31 Qm (wp_X3_totalledColumns_4 Qm n) y2 (iShl 1 y2) y1 M2)))) := hw
    refine lv_iload_n X.1.1 X.1.2.1 dX3_totalledColumns_4 rfl (lv_at hl 2 rfl) ?_
    refine lv_aload_n X.1.1 X.1.2.1 dX3_totalledColumns_5 rfl (lv_at hl 0 rfl) ?_
    refine gt_4_0 X hR (okf X.2.2.1 rfl) kw_112 dX3_totalledColumns_6 ?_
    refine ls_size (by decide) (by decide) X (kc := 4) rmL_ok rm_c (by decide) hR hS kw_441 hl.1 dX3_totalledColumns_9 (Nat.le_of_ble_eq_true rfl) (fun H locs hR hS => ?_)
    have r1 := hR.r 12 0 (-1)
    refine sa_icmp_ge (tgt := 39) X.1 hy2 r1 dX3_totalledColumns_12 (by decide) (fun hc => ?_) (fun hc => ?_)
    · have hw := hw.1 hc
      refine lv_iload_n X.1.1 X.1.2.1 dX3_totalledColumns_39 rfl (lv_at hl 1 rfl) ?_
      exact sa_iret X.1 X.2.2.2.1 X.2.2.2.2 hR hS hy1 hw dX3_totalledColumns_40
    · have hw := hw.2 hc
      refine lv_iload_n X.1.1 X.1.2.1 dX3_totalledColumns_15 rfl (lv_at hl 1 rfl) ?_
      refine lv_aload_n X.1.1 X.1.2.1 dX3_totalledColumns_16 rfl (lv_at hl 0 rfl) ?_
      refine lv_iload_n X.1.1 X.1.2.1 dX3_totalledColumns_17 rfl (lv_at hl 2 rfl) ?_
      refine cs_X3_isTotalled X hy2 (kc := 4) rmL_ok rm_c (by decide) hR hS kw_553 hl.1 dX3_totalledColumns_18 (Nat.le_of_ble_eq_true rfl) hw (fun x3 M2 H locs hw r4 hR hS => ?_)
      refine sa_if_eq (tgt := 30) X.1 r4 dX3_totalledColumns_21 (by decide) (fun hc => ?_) (fun hc => ?_)
      · have hw := hw.1 hc
        refine sa_const X.1 dX3_totalledColumns_30 ?_
        exact t_X3_totalledColumns_31 X ih _ _ _ _ hw hy2 (inR_c (a := 0) rfl) hy1 _ _ hR hS _ (lv_sub hl [0, 2] rfl)
      · have hw := hw.2 hc
        refine sa_const X.1 dX3_totalledColumns_24 ?_
        refine lv_iload_n X.1.1 X.1.2.1 dX3_totalledColumns_25 rfl (lv_at hl 2 rfl) ?_
        refine sa_ishl X.1 dX3_totalledColumns_26 ?_
        refine lv_goto (tgt := 31) X.1.1 X.1.2.1 dX3_totalledColumns_27 (by decide) ?_
        exact t_X3_totalledColumns_31 X ih _ _ _ _ hw hy2 (inR_t _) hy1 _ _ hR hS _ (lv_sub hl [0, 2] rfl)
set_option maxHeartbeats 4000000 in
set_option maxRecDepth 100000 in
theorem t_X3_totalledColumns (X : CX p m c cX3_totalledColumns 3 s args RX3 G B κ meth (some .int)) {M : Mem} {Qm : Int → Mem → Prop} (hw : wp_X3_totalledColumns M Qm) (H : Heap) (locs : List Loc) (hR : Rp G e0 α κ B M H) (hS : va_S (fun q => B ≤ q) s.heap H locs) (ls : Array Slot) (hl : lv_has ls 3 [(0, .ref (α 4 0))]) : WI p l e 4 s m args below meth c G e0 α κ B Qm H locs 0 ls [] := by
  have hw : (∃ n6 : Nat, wp_X3_totalledColumns_4 Qm n6 0 0 M) := hw
  refine sa_const X.1 dX3_totalledColumns_0 ?_
  refine lv_istore_n (lv' := [(1, .int (Int32.ofInt 0)), (0, .ref (α 4 0))]) X.1.1 X.1.2.1 dX3_totalledColumns_1 rfl hl (by decide) rfl (fun ls hl => ?_)
  refine sa_const X.1 dX3_totalledColumns_2 ?_
  refine lv_istore_n (lv' := [(2, .int (Int32.ofInt 0)), (1, .int (Int32.ofInt 0)), (0, .ref (α 4 0))]) X.1.1 X.1.2.1 dX3_totalledColumns_3 rfl hl (by decide) rfl (fun ls hl => ?_)
  obtain ⟨n6, hw⟩ := hw
  exact t_X3_totalledColumns_4 X n6 _ _ _ hw (inR_c (a := 0) rfl) (inR_c (a := 0) rfl) _ _ hR hS _ (lv_sub hl [2, 1, 0] rfl)
theorem m_X3_totalledColumns {l : Launch} {G : Gx} {e0 : Nat} {α : Ax} {κ : Nat → Int} {B : Nat} (hκ : kOK κ) {M : Mem} {Qm : Int → Mem → Prop} (hw : wp_X3_totalledColumns M Qm) : CI l yX3_totalledColumns (Cond.code yX3_totalledColumns cX3_totalledColumns 3 (some .int)) 4 G e0 α κ B [.ref (α 4 0)] M Qm :=
  CI.mk hκ (by decide +kernel) rfl (Nat.le_of_ble_eq_true rfl) (lv := [(0, .ref (α 4 0))]) rfl (fun p e s m args below meth c ls X hR hS hl => t_X3_totalledColumns X hw _ _ hR hS ls hl)
theorem cs_X3_totalledColumns {cc : ByteArray} {nL : Nat} {own : String} {ret : Option FieldType} {idx pc : Nat} (X : CX p m c cc nL s args own G B κ meth ret) {kc : Nat} {R : Room} {cells slots : Nat} (hRr : RmOK R kc) (hcel : cells ≤ R.cells ∧ slots ≤ R.slots) (hk : 4 + 1 ≤ kc) {M : Mem} {H : Heap} {locs : List Loc} (hR : Rp G e0 α κ B M H) (hS : va_S (fun q => B ≤ q) s.heap H locs) (k1 : Cond.methodLink own idx yX3_totalledColumns ∈ gw) {ls : Array Slot} (hml : ls.size = nL) {rest : List Value} (hd : decode cc pc = .ok (.invokevirtual idx, 3)) (hrest : (rest.map fun v => v.category).sum ≤ 8) {Q : State → Prop} {Qm : Int → Mem → Prop} (hw : wp_X3_totalledColumns M Qm) (kk : ∀ (r : Int) (M1 : Mem) (H1 : Heap) (locs1 : List Loc), Qm r M1 → inR r → Rp G e0 α κ B M1 H1 → va_S (fun q => B ≤ q) s.heap H1 locs1 → W p l e R s m args below meth c H1 locs1 cells slots Q (F0 m (pc + 3) ls (.int (Int32.ofInt r) :: rest))) : W p l e R s m args below meth c H locs cells slots Q (F0 m pc ls (.ref (α 4 0) :: rest)) :=
  sa_callVI 4 (n := 0) (As := []) (rest := rest) X.1 X.2.1 hR hS (m_X3_totalledColumns X.2.2.1 hw) k1 kw_550 kw_551 kw_39 kw_552 ⟨rfl, by decide +kernel, by decide +kernel, by decide +kernel⟩ (rm_ok hRr hk (by decide)) (rc_4 X hR (okf X.2.2.1 rfl)) rfl rfl hrest hml hd hcel kk
def wp_X3_between (M : Mem) (Qm : Int → Mem → Prop) : Prop := wp_X3_countShownColumns M fun (x2 : Int) (M1 : Mem) => (inR (x2 - 1)) ∧ Qm (max 0 (x2 - 1)) M1
set_option maxHeartbeats 4000000 in
set_option maxRecDepth 100000 in
theorem t_X3_between (X : CX p m c cX3_between 1 s args RX3 G B κ meth (some .int)) {M : Mem} {Qm : Int → Mem → Prop} (hw : wp_X3_between M Qm) (H : Heap) (locs : List Loc) (hR : Rp G e0 α κ B M H) (hS : va_S (fun q => B ≤ q) s.heap H locs) (ls : Array Slot) (hl : lv_has ls 1 [(0, .ref (α 4 0))]) : WI p l e 2 s m args below meth c G e0 α κ B Qm H locs 0 ls [] := by
  have hw : wp_X3_countShownColumns M fun (x2 : Int) (M1 : Mem) => (inR (x2 - 1)) ∧ Qm (max 0 (x2 - 1)) M1 := hw
  refine sa_const X.1 dX3_between_0 ?_
  refine lv_aload_n X.1.1 X.1.2.1 dX3_between_1 rfl (lv_at hl 0 rfl) ?_
  refine cs_X3_countShownColumns X  (kc := 2) rmL_ok rm_c (by decide) hR hS kw_481 hl.1 dX3_between_2 (Nat.le_of_ble_eq_true rfl) hw (fun x2 M1 H locs hw r3 hR hS => ?_)
  refine sa_const X.1 dX3_between_5 ?_
  have c4 := hw.1
  have hw := hw.2
  refine sa_isub X.1 dX3_between_6 ?_
  refine sa_max (R := rmL 2) X.1 (inR_c (a := 0) rfl) c4 hl.1 kw_470 kmath_max_s kmath_i kmath_max_c (by decide) (Nat.le_of_ble_eq_true rfl) rm_c dX3_between_7 ?_
  exact sa_iret X.1 X.2.2.2.1 X.2.2.2.2 hR hS (inR_max (inR_c (a := 0) rfl) c4) hw dX3_between_10
theorem m_X3_between {l : Launch} {G : Gx} {e0 : Nat} {α : Ax} {κ : Nat → Int} {B : Nat} (hκ : kOK κ) {M : Mem} {Qm : Int → Mem → Prop} (hw : wp_X3_between M Qm) : CI l yX3_between (Cond.code yX3_between cX3_between 1 (some .int)) 2 G e0 α κ B [.ref (α 4 0)] M Qm :=
  CI.mk hκ (by decide +kernel) rfl (Nat.le_of_ble_eq_true rfl) (lv := [(0, .ref (α 4 0))]) rfl (fun p e s m args below meth c ls X hR hS hl => t_X3_between X hw _ _ hR hS ls hl)
theorem cs_X3_between {cc : ByteArray} {nL : Nat} {own : String} {ret : Option FieldType} {idx pc : Nat} (X : CX p m c cc nL s args own G B κ meth ret) {kc : Nat} {R : Room} {cells slots : Nat} (hRr : RmOK R kc) (hcel : cells ≤ R.cells ∧ slots ≤ R.slots) (hk : 2 + 1 ≤ kc) {M : Mem} {H : Heap} {locs : List Loc} (hR : Rp G e0 α κ B M H) (hS : va_S (fun q => B ≤ q) s.heap H locs) (k1 : Cond.methodLink own idx yX3_between ∈ gw) {ls : Array Slot} (hml : ls.size = nL) {rest : List Value} (hd : decode cc pc = .ok (.invokevirtual idx, 3)) (hrest : (rest.map fun v => v.category).sum ≤ 8) {Q : State → Prop} {Qm : Int → Mem → Prop} (hw : wp_X3_between M Qm) (kk : ∀ (r : Int) (M1 : Mem) (H1 : Heap) (locs1 : List Loc), Qm r M1 → inR r → Rp G e0 α κ B M1 H1 → va_S (fun q => B ≤ q) s.heap H1 locs1 → W p l e R s m args below meth c H1 locs1 cells slots Q (F0 m (pc + 3) ls (.int (Int32.ofInt r) :: rest))) : W p l e R s m args below meth c H locs cells slots Q (F0 m pc ls (.ref (α 4 0) :: rest)) :=
  sa_callVI 2 (n := 0) (As := []) (rest := rest) X.1 X.2.1 hR hS (m_X3_between X.2.2.1 hw) k1 kw_478 kw_479 kw_39 kw_480 ⟨rfl, by decide +kernel, by decide +kernel, by decide +kernel⟩ (rm_ok hRr hk (by decide)) (rc_4 X hR (okf X.2.2.1 rfl)) rfl rfl hrest hml hd hcel kk
def wp_X3_widthTogether_48 (a1 : Nat) (b1 : Int) (Qm : Int → Mem → Prop) (y2 : Int) (M : Mem) : Prop := Qm y2 M
def wp_X3_widthTogether_7 (a1 : Nat) (b1 : Int) (Qm : Int → Mem → Prop) : Nat → Int → Int → Mem → Prop
  | 0 => fun _ _ _ => False
  | n + 1 => fun y2 y3 M => (((M 12 0 (-1)) ≤ y3 → wp_X3_widthTogether_48 a1 b1 Qm y2 M) ∧ (y3 < (M 12 0 (-1)) → ((6 ≤ y3 → wp_X3_widthTogether_48 a1 b1 Qm y2 M) ∧ (y3 < 6 → wp_X3_isShown y3 M fun (x6 : Int) (M5 : Mem) => (¬ x6 = 0 → (0 ≤ y3 ∧ y3 < 6) ∧ True) ∧ (inR (y2 + (if x6 = 0 then (0 : Int) else (M5 a1 b1 y3)))) ∧ (inR (y3 + 1)) ∧ wp_X3_widthTogether_7 a1 b1 Qm n (y2 + (if x6 = 0 then (0 : Int) else (M5 a1 b1 y3))) (y3 + 1) M5))))
def wp_X3_widthTogether (a1 : Nat) (b1 : Int) (M : Mem) (Qm : Int → Mem → Prop) : Prop := wp_X3_between M fun (x2 : Int) (M1 : Mem) => (∃ n15 : Nat, wp_X3_widthTogether_7 a1 b1 Qm n15 x2 0 M1)
set_option maxHeartbeats 4000000 in
set_option maxRecDepth 100000 in
theorem t_X3_widthTogether_48 {a1 : Nat} {b1 : Int} (X : CX p m c cX3_widthTogether 4 s args RX3 G B κ meth (some .int)) (ha1 : A6 a1) (hoa1 : okk κ a1 b1) {Qm : Int → Mem → Prop} : ∀ y2 : Int, ∀ M : Mem, wp_X3_widthTogether_48 a1 b1 Qm y2 M → inR y2 → ∀ (H : Heap) (locs : List Loc), Rp G e0 α κ B M H → va_S (fun q => B ≤ q) s.heap H locs → ∀ (ls : Array Slot), lv_has ls 4 [(2, .int (Int32.ofInt y2))] → WI p l e 3 s m args below meth c G e0 α κ B Qm H locs 48 ls [] := by
  intro y2 M hw hy2 H locs hR hS ls hl
  have hw : Qm y2 M := hw
  refine lv_iload_n X.1.1 X.1.2.1 dX3_widthTogether_48 rfl (lv_at hl 0 rfl) ?_
  exact sa_iret X.1 X.2.2.2.1 X.2.2.2.2 hR hS hy2 hw dX3_widthTogether_49
set_option maxHeartbeats 4000000 in
set_option maxRecDepth 100000 in
theorem t_X3_widthTogether_7 {a1 : Nat} {b1 : Int} (X : CX p m c cX3_widthTogether 4 s args RX3 G B κ meth (some .int)) (ha1 : A6 a1) (hoa1 : okk κ a1 b1) {Qm : Int → Mem → Prop} : ∀ n : Nat, ∀ y2 : Int, ∀ y3 : Int, ∀ M : Mem, wp_X3_widthTogether_7 a1 b1 Qm n y2 y3 M → inR y2 → inR y3 → ∀ (H : Heap) (locs : List Loc), Rp G e0 α κ B M H → va_S (fun q => B ≤ q) s.heap H locs → ∀ (ls : Array Slot), lv_has ls 4 [(0, .ref (α 4 0)), (1, .ref (α a1 b1)), (2, .int (Int32.ofInt y2)), (3, .int (Int32.ofInt y3))] → WI p l e 3 s m args below meth c G e0 α κ B Qm H locs 7 ls [] := by
  intro n
  induction n with
  | zero =>
    intro y2 y3 M hw hy2 hy3 H locs hR hS ls hl
    exact hw.elim
  | succ n ih =>
    intro y2 y3 M hw hy2 hy3 H locs hR hS ls hl
    have hw : (((M 12 0 (-1)) ≤ y3 → wp_X3_widthTogether_48 a1 b1 Qm y2 M) ∧ (y3 < (M 12 0 (-1)) → ((6 ≤ y3 → wp_X3_widthTogether_48 a1 b1 Qm y2 M) ∧ (y3 < 6 → wp_X3_isShown y3 M fun (x6 : Int) (M5 : Mem) => (¬ x6 = 0 → (0 ≤ y3 ∧ y3 < 6) ∧ True) ∧ (inR (y2 + (if x6 = 0 then (0 : Int) else (M5 a1 b1 y3)))) ∧ (inR (y3 + 1)) ∧ wp_X3_widthTogether_7 a1 b1 Qm n (y2 + (if x6 = 0 then (0 : Int) else (M5 a1 b1 y3))) (y3 + 1) M5)))) := hw
    refine lv_iload_n X.1.1 X.1.2.1 dX3_widthTogether_7 rfl (lv_at hl 3 rfl) ?_
    refine lv_aload_n X.1.1 X.1.2.1 dX3_widthTogether_8 rfl (lv_at hl 0 rfl) ?_
    refine gt_4_0 X hR (okf X.2.2.1 rfl) kw_112 dX3_widthTogether_9 ?_
    refine ls_size (by decide) (by decide) X (kc := 3) rmL_ok rm_c (by decide) hR hS kw_441 hl.1 dX3_widthTogether_12 (Nat.le_of_ble_eq_true rfl) (fun H locs hR hS => ?_)
    have r4 := hR.r 12 0 (-1)
    refine sa_icmp_ge (tgt := 48) X.1 hy3 r4 dX3_widthTogether_15 (by decide) (fun hc => ?_) (fun hc => ?_)
    · have hw := hw.1 hc
      exact t_X3_widthTogether_48 X ha1 hoa1 _ _ hw hy2 _ _ hR hS _ (lv_sub hl [2] rfl)
    · have hw := hw.2 hc
      refine lv_iload_n X.1.1 X.1.2.1 dX3_widthTogether_18 rfl (lv_at hl 3 rfl) ?_
      refine lv_aload_n X.1.1 X.1.2.1 dX3_widthTogether_19 rfl (lv_at hl 1 rfl) ?_
      refine sa_alen (A6_AI ha1) X hR hoa1 dX3_widthTogether_20 ?_
      rw [ha1.2.2.2]
      rw [show ((6 : Nat) : Int) = 6 from rfl]
      refine sa_icmp_ge (tgt := 48) X.1 hy3 (inR_c (a := 6) rfl) dX3_widthTogether_21 (by decide) (fun hc => ?_) (fun hc => ?_)
      · have hw := hw.1 hc
        exact t_X3_widthTogether_48 X ha1 hoa1 _ _ hw hy2 _ _ hR hS _ (lv_sub hl [2] rfl)
      · have hw := hw.2 hc
        refine lv_iload_n X.1.1 X.1.2.1 dX3_widthTogether_24 rfl (lv_at hl 2 rfl) ?_
        refine lv_aload_n X.1.1 X.1.2.1 dX3_widthTogether_25 rfl (lv_at hl 0 rfl) ?_
        refine lv_iload_n X.1.1 X.1.2.1 dX3_widthTogether_26 rfl (lv_at hl 3 rfl) ?_
        refine cs_X3_isShown X hy3 (kc := 3) rmL_ok rm_c (by decide) hR hS kw_437 hl.1 dX3_widthTogether_27 (Nat.le_of_ble_eq_true rfl) hw (fun x6 M5 H locs hw r7 hR hS => ?_)
        have s9 := hw.1
        have hw := hw.2
        have r10 := inR_ite (c := x6 = 0) (inR_c (a := 0) rfl) (hR.r a1 b1 y3)
        refine cut_j (A := ∀ v11 : Int, v11 = (if x6 = 0 then (0 : Int) else (M5 a1 b1 y3)) → WI p l e 3 s m args below meth c G e0 α κ B Qm H locs 40 ls [.int (Int32.ofInt v11), .int (Int32.ofInt y2)]) (fun J12 => ?_) ?_
        · refine sa_if_eq (tgt := 39) X.1 r7 dX3_widthTogether_30 (by decide) (fun hc => ?_) (fun hc => ?_)
          · skip
            refine sa_const X.1 dX3_widthTogether_39 ?_
            exact J12 (0) (if_pos (c := x6 = 0) hc).symm
          · have hw := s9 hc
            refine lv_aload_n X.1.1 X.1.2.1 dX3_widthTogether_33 rfl (lv_at hl 1 rfl) ?_
            refine lv_iload_n X.1.1 X.1.2.1 dX3_widthTogether_34 rfl (lv_at hl 3 rfl) ?_
            have c8 := hw.1
            have hw := hw.2
            refine ra_A6 ha1 X hR hoa1 c8 dX3_widthTogether_35 ?_
            refine lv_goto (tgt := 40) X.1.1 X.1.2.1 dX3_widthTogether_36 (by decide) ?_
            exact J12 ((M5 a1 b1 y3)) (if_neg (c := x6 = 0) hc).symm
        intro v11 hv11
        subst hv11
        have c13 := hw.1
        have hw := hw.2
        refine sa_iadd X.1 dX3_widthTogether_40 ?_
        refine lv_istore_n (lv' := [(2, .int (Int32.ofInt (y2 + (if x6 = 0 then (0 : Int) else (M5 a1 b1 y3))))), (0, .ref (α 4 0)), (1, .ref (α a1 b1)), (3, .int (Int32.ofInt y3))]) X.1.1 X.1.2.1 dX3_widthTogether_41 rfl hl (by decide) rfl (fun ls hl => ?_)
        have c14 := hw.1
        have hw := hw.2
        refine lv_iinc (v := Int32.ofInt (y3 + 1)) (lv' := [(3, .int (Int32.ofInt (y3 + 1))), (2, .int (Int32.ofInt (y2 + (if x6 = 0 then (0 : Int) else (M5 a1 b1 y3))))), (0, .ref (α 4 0)), (1, .ref (α a1 b1))]) X.1.1 X.1.2.1 dX3_widthTogether_42 hl (k := 3) rfl (Int32.ofInt_add _ _).symm (by decide) rfl (fun ls hl => ?_)
        refine lv_goto (tgt := 7) X.1.1 X.1.2.1 dX3_widthTogether_45 (by decide) ?_
        exact ih _ _ _ hw c13 c14 _ _ hR hS _ (lv_sub hl [2, 3, 1, 0] rfl)
set_option maxHeartbeats 4000000 in
set_option maxRecDepth 100000 in
theorem t_X3_widthTogether {a1 : Nat} {b1 : Int} (X : CX p m c cX3_widthTogether 4 s args RX3 G B κ meth (some .int)) (ha1 : A6 a1) (hoa1 : okk κ a1 b1) {M : Mem} {Qm : Int → Mem → Prop} (hw : wp_X3_widthTogether a1 b1 M Qm) (H : Heap) (locs : List Loc) (hR : Rp G e0 α κ B M H) (hS : va_S (fun q => B ≤ q) s.heap H locs) (ls : Array Slot) (hl : lv_has ls 4 [(0, .ref (α 4 0)), (1, .ref (α a1 b1))]) : WI p l e 3 s m args below meth c G e0 α κ B Qm H locs 0 ls [] := by
  have hw : wp_X3_between M fun (x2 : Int) (M1 : Mem) => (∃ n15 : Nat, wp_X3_widthTogether_7 a1 b1 Qm n15 x2 0 M1) := hw
  refine lv_aload_n X.1.1 X.1.2.1 dX3_widthTogether_0 rfl (lv_at hl 0 rfl) ?_
  refine cs_X3_between X  (kc := 3) rmL_ok rm_c (by decide) hR hS kw_1317 hl.1 dX3_widthTogether_1 (Nat.le_of_ble_eq_true rfl) hw (fun x2 M1 H locs hw r3 hR hS => ?_)
  refine lv_istore_n (lv' := [(2, .int (Int32.ofInt x2)), (0, .ref (α 4 0)), (1, .ref (α a1 b1))]) X.1.1 X.1.2.1 dX3_widthTogether_4 rfl hl (by decide) rfl (fun ls hl => ?_)
  refine sa_const X.1 dX3_widthTogether_5 ?_
  refine lv_istore_n (lv' := [(3, .int (Int32.ofInt 0)), (2, .int (Int32.ofInt x2)), (0, .ref (α 4 0)), (1, .ref (α a1 b1))]) X.1.1 X.1.2.1 dX3_widthTogether_6 rfl hl (by decide) rfl (fun ls hl => ?_)
  obtain ⟨n15, hw⟩ := hw
  exact t_X3_widthTogether_7 X ha1 hoa1 n15 _ _ _ hw r3 (inR_c (a := 0) rfl) _ _ hR hS _ (lv_sub hl [2, 3, 1, 0] rfl)
theorem m_X3_widthTogether {l : Launch} {G : Gx} {e0 : Nat} {α : Ax} {κ : Nat → Int} {B : Nat} {a1 : Nat} {b1 : Int} (hκ : kOK κ) (ha1 : A6 a1) (hoa1 : okk κ a1 b1) {M : Mem} {Qm : Int → Mem → Prop} (hw : wp_X3_widthTogether a1 b1 M Qm) : CI l yX3_widthTogether (Cond.code yX3_widthTogether cX3_widthTogether 4 (some .int)) 3 G e0 α κ B [.ref (α 4 0), .ref (α a1 b1)] M Qm :=
  CI.mk hκ (by decide +kernel) rfl (Nat.le_of_ble_eq_true rfl) (lv := [(0, .ref (α 4 0)), (1, .ref (α a1 b1))]) rfl (fun p e s m args below meth c ls X hR hS hl => t_X3_widthTogether X ha1 hoa1 hw _ _ hR hS ls hl)
theorem cs_X3_widthTogether {cc : ByteArray} {nL : Nat} {own : String} {ret : Option FieldType} {idx pc : Nat} {a1 : Nat} {b1 : Int} (X : CX p m c cc nL s args own G B κ meth ret) (ha1 : A6 a1) (hoa1 : okk κ a1 b1) {kc : Nat} {R : Room} {cells slots : Nat} (hRr : RmOK R kc) (hcel : cells ≤ R.cells ∧ slots ≤ R.slots) (hk : 3 + 1 ≤ kc) {M : Mem} {H : Heap} {locs : List Loc} (hR : Rp G e0 α κ B M H) (hS : va_S (fun q => B ≤ q) s.heap H locs) (k1 : Cond.methodLink own idx yX3_widthTogether ∈ gw) {ls : Array Slot} (hml : ls.size = nL) {rest : List Value} (hd : decode cc pc = .ok (.invokevirtual idx, 3)) (hrest : (rest.map fun v => v.category).sum ≤ 8) {Q : State → Prop} {Qm : Int → Mem → Prop} (hw : wp_X3_widthTogether a1 b1 M Qm) (kk : ∀ (r : Int) (M1 : Mem) (H1 : Heap) (locs1 : List Loc), Qm r M1 → inR r → Rp G e0 α κ B M1 H1 → va_S (fun q => B ≤ q) s.heap H1 locs1 → W p l e R s m args below meth c H1 locs1 cells slots Q (F0 m (pc + 3) ls (.int (Int32.ofInt r) :: rest))) : W p l e R s m args below meth c H locs cells slots Q (F0 m pc ls (.ref (α a1 b1) :: .ref (α 4 0) :: rest)) :=
  sa_callVI 3 (n := 1) (As := [.ref (α a1 b1)]) (rest := rest) X.1 X.2.1 hR hS (m_X3_widthTogether X.2.2.1 ha1 hoa1 hw) k1 kw_1314 kw_1315 kw_39 kw_1316 ⟨rfl, by decide +kernel, by decide +kernel, by decide +kernel⟩ (rm_ok hRr hk (by decide)) (rc_4 X hR (okf X.2.2.1 rfl)) rfl rfl hrest hml hd hcel kk
def wp_X3_widthOfCell_33 (u1 : Int) (a2 : Nat) (b2 : Int) (Qm : Int → Mem → Prop) : Nat → Int → Int → Int → Mem → Prop
  | 0 => fun _ _ _ _ => False
  | n + 1 => fun y3 y4 y5 M => ((y4 ≤ y5 → Qm y3 M) ∧ (y5 < y4 → wp_X3_isShown y5 M fun (x8 : Int) (M7 : Mem) => (¬ x8 = 0 → (0 ≤ y5 ∧ y5 < 6) ∧ True) ∧ (inR (y3 + (if x8 = 0 then (0 : Int) else (M7 a2 b2 y5)))) ∧ (inR (y5 + 1)) ∧ wp_X3_widthOfCell_33 u1 a2 b2 Qm n (y3 + (if x8 = 0 then (0 : Int) else (M7 a2 b2 y5))) y4 (y5 + 1) M7))
def wp_X3_widthOfCell (u1 : Int) (a2 : Nat) (b2 : Int) (M : Mem) (Qm : Int → Mem → Prop) : Prop := (inR ((M 1 u1 12) - 1)) ∧ (inR ((M 1 u1 1) + (M 1 u1 3))) ∧ (∃ n17 : Nat, wp_X3_widthOfCell_33 u1 a2 b2 Qm n17 (max 0 ((M 1 u1 12) - 1)) (min ((M 1 u1 1) + (M 1 u1 3)) 6) (M 1 u1 1) M)
set_option maxHeartbeats 4000000 in
set_option maxRecDepth 100000 in
theorem t_X3_widthOfCell_33 {u1 : Int} {a2 : Nat} {b2 : Int} (X : CX p m c cX3_widthOfCell 6 s args RX3 G B κ meth (some .int)) (hu1 : okk κ 1 u1) (ha2 : A6 a2) (hoa2 : okk κ a2 b2) {Qm : Int → Mem → Prop} : ∀ n : Nat, ∀ y3 : Int, ∀ y4 : Int, ∀ y5 : Int, ∀ M : Mem, wp_X3_widthOfCell_33 u1 a2 b2 Qm n y3 y4 y5 M → inR y3 → inR y4 → inR y5 → ∀ (H : Heap) (locs : List Loc), Rp G e0 α κ B M H → va_S (fun q => B ≤ q) s.heap H locs → ∀ (ls : Array Slot), lv_has ls 6 [(0, .ref (α 4 0)), (2, .ref (α a2 b2)), (3, .int (Int32.ofInt y3)), (4, .int (Int32.ofInt y4)), (5, .int (Int32.ofInt y5))] → WI p l e 1 s m args below meth c G e0 α κ B Qm H locs 33 ls [] := by
  intro n
  induction n with
  | zero =>
    intro y3 y4 y5 M hw hy3 hy4 hy5 H locs hR hS ls hl
    exact hw.elim
  | succ n ih =>
    intro y3 y4 y5 M hw hy3 hy4 hy5 H locs hR hS ls hl
    have hw : ((y4 ≤ y5 → Qm y3 M) ∧ (y5 < y4 → wp_X3_isShown y5 M fun (x8 : Int) (M7 : Mem) => (¬ x8 = 0 → (0 ≤ y5 ∧ y5 < 6) ∧ True) ∧ (inR (y3 + (if x8 = 0 then (0 : Int) else (M7 a2 b2 y5)))) ∧ (inR (y5 + 1)) ∧ wp_X3_widthOfCell_33 u1 a2 b2 Qm n (y3 + (if x8 = 0 then (0 : Int) else (M7 a2 b2 y5))) y4 (y5 + 1) M7)) := hw
    refine lv_iload X.1.1 X.1.2.1 dX3_widthOfCell_33 (lv_at hl 4 rfl) ?_
    refine lv_iload X.1.1 X.1.2.1 dX3_widthOfCell_35 (lv_at hl 3 rfl) ?_
    refine sa_icmp_ge (tgt := 66) X.1 hy5 hy4 dX3_widthOfCell_37 (by decide) (fun hc => ?_) (fun hc => ?_)
    · have hw := hw.1 hc
      refine lv_iload_n X.1.1 X.1.2.1 dX3_widthOfCell_66 rfl (lv_at hl 2 rfl) ?_
      exact sa_iret X.1 X.2.2.2.1 X.2.2.2.2 hR hS hy3 hw dX3_widthOfCell_67
    · have hw := hw.2 hc
      refine lv_iload_n X.1.1 X.1.2.1 dX3_widthOfCell_40 rfl (lv_at hl 2 rfl) ?_
      refine lv_aload_n X.1.1 X.1.2.1 dX3_widthOfCell_41 rfl (lv_at hl 0 rfl) ?_
      refine lv_iload X.1.1 X.1.2.1 dX3_widthOfCell_42 (lv_at hl 4 rfl) ?_
      refine cs_X3_isShown X hy5 (kc := 1) rmL_ok rm_c (by decide) hR hS kw_437 hl.1 dX3_widthOfCell_44 (Nat.le_of_ble_eq_true rfl) hw (fun x8 M7 H locs hw r9 hR hS => ?_)
      have s11 := hw.1
      have hw := hw.2
      have r12 := inR_ite (c := x8 = 0) (inR_c (a := 0) rfl) (hR.r a2 b2 y5)
      refine cut_j (A := ∀ v13 : Int, v13 = (if x8 = 0 then (0 : Int) else (M7 a2 b2 y5)) → WI p l e 1 s m args below meth c G e0 α κ B Qm H locs 58 ls [.int (Int32.ofInt v13), .int (Int32.ofInt y3)]) (fun J14 => ?_) ?_
      · refine sa_if_eq (tgt := 57) X.1 r9 dX3_widthOfCell_47 (by decide) (fun hc => ?_) (fun hc => ?_)
        · skip
          refine sa_const X.1 dX3_widthOfCell_57 ?_
          exact J14 (0) (if_pos (c := x8 = 0) hc).symm
        · have hw := s11 hc
          refine lv_aload_n X.1.1 X.1.2.1 dX3_widthOfCell_50 rfl (lv_at hl 1 rfl) ?_
          refine lv_iload X.1.1 X.1.2.1 dX3_widthOfCell_51 (lv_at hl 4 rfl) ?_
          have c10 := hw.1
          have hw := hw.2
          refine ra_A6 ha2 X hR hoa2 c10 dX3_widthOfCell_53 ?_
          refine lv_goto (tgt := 58) X.1.1 X.1.2.1 dX3_widthOfCell_54 (by decide) ?_
          exact J14 ((M7 a2 b2 y5)) (if_neg (c := x8 = 0) hc).symm
      intro v13 hv13
      subst hv13
      have c15 := hw.1
      have hw := hw.2
      refine sa_iadd X.1 dX3_widthOfCell_58 ?_
      refine lv_istore_n (lv' := [(3, .int (Int32.ofInt (y3 + (if x8 = 0 then (0 : Int) else (M7 a2 b2 y5))))), (0, .ref (α 4 0)), (2, .ref (α a2 b2)), (4, .int (Int32.ofInt y4)), (5, .int (Int32.ofInt y5))]) X.1.1 X.1.2.1 dX3_widthOfCell_59 rfl hl (by decide) rfl (fun ls hl => ?_)
      have c16 := hw.1
      have hw := hw.2
      refine lv_iinc (v := Int32.ofInt (y5 + 1)) (lv' := [(5, .int (Int32.ofInt (y5 + 1))), (3, .int (Int32.ofInt (y3 + (if x8 = 0 then (0 : Int) else (M7 a2 b2 y5))))), (0, .ref (α 4 0)), (2, .ref (α a2 b2)), (4, .int (Int32.ofInt y4))]) X.1.1 X.1.2.1 dX3_widthOfCell_60 hl (k := 4) rfl (Int32.ofInt_add _ _).symm (by decide) rfl (fun ls hl => ?_)
      refine lv_goto (tgt := 33) X.1.1 X.1.2.1 dX3_widthOfCell_63 (by decide) ?_
      exact ih _ _ _ _ hw c15 hy4 c16 _ _ hR hS _ (lv_sub hl [2, 3, 1, 4, 0] rfl)
set_option maxHeartbeats 4000000 in
set_option maxRecDepth 100000 in
theorem t_X3_widthOfCell {u1 : Int} {a2 : Nat} {b2 : Int} (X : CX p m c cX3_widthOfCell 6 s args RX3 G B κ meth (some .int)) (hu1 : okk κ 1 u1) (ha2 : A6 a2) (hoa2 : okk κ a2 b2) {M : Mem} {Qm : Int → Mem → Prop} (hw : wp_X3_widthOfCell u1 a2 b2 M Qm) (H : Heap) (locs : List Loc) (hR : Rp G e0 α κ B M H) (hS : va_S (fun q => B ≤ q) s.heap H locs) (ls : Array Slot) (hl : lv_has ls 6 [(0, .ref (α 4 0)), (1, .ref (α 1 u1)), (2, .ref (α a2 b2))]) : WI p l e 1 s m args below meth c G e0 α κ B Qm H locs 0 ls [] := by
  have hw : (inR ((M 1 u1 12) - 1)) ∧ (inR ((M 1 u1 1) + (M 1 u1 3))) ∧ (∃ n17 : Nat, wp_X3_widthOfCell_33 u1 a2 b2 Qm n17 (max 0 ((M 1 u1 12) - 1)) (min ((M 1 u1 1) + (M 1 u1 3)) 6) (M 1 u1 1) M) := hw
  refine sa_const X.1 dX3_widthOfCell_0 ?_
  refine lv_aload_n X.1.1 X.1.2.1 dX3_widthOfCell_1 rfl (lv_at hl 1 rfl) ?_
  refine gt_1_12 X hR hu1 kw_1018 dX3_widthOfCell_2 ?_
  have r1 := hR.r 1 u1 12
  refine sa_const X.1 dX3_widthOfCell_5 ?_
  have c2 := hw.1
  have hw := hw.2
  refine sa_isub X.1 dX3_widthOfCell_6 ?_
  refine sa_max (R := rmL 1) X.1 (inR_c (a := 0) rfl) c2 hl.1 kw_470 kmath_max_s kmath_i kmath_max_c (by decide) (Nat.le_of_ble_eq_true rfl) rm_c dX3_widthOfCell_7 ?_
  refine lv_istore_n (lv' := [(3, .int (Int32.ofInt (max 0 ((M 1 u1 12) - 1)))), (0, .ref (α 4 0)), (1, .ref (α 1 u1)), (2, .ref (α a2 b2))]) X.1.1 X.1.2.1 dX3_widthOfCell_10 rfl hl (by decide) rfl (fun ls hl => ?_)
  refine lv_aload_n X.1.1 X.1.2.1 dX3_widthOfCell_11 rfl (lv_at hl 2 rfl) ?_
  refine gt_1_1 X hR hu1 kw_989 dX3_widthOfCell_12 ?_
  have r3 := hR.r 1 u1 1
  refine lv_aload_n X.1.1 X.1.2.1 dX3_widthOfCell_15 rfl (lv_at hl 2 rfl) ?_
  refine gt_1_3 X hR hu1 kw_998 dX3_widthOfCell_16 ?_
  have r4 := hR.r 1 u1 3
  have c5 := hw.1
  have hw := hw.2
  refine sa_iadd X.1 dX3_widthOfCell_19 ?_
  refine lv_aload_n X.1.1 X.1.2.1 dX3_widthOfCell_20 rfl (lv_at hl 3 rfl) ?_
  refine sa_alen (A6_AI ha2) X hR hoa2 dX3_widthOfCell_21 ?_
  rw [ha2.2.2.2]
  rw [show ((6 : Nat) : Int) = 6 from rfl]
  refine sa_min (R := rmL 1) X.1 c5 (inR_c (a := 6) rfl) kw_471 hl.1 kmath_min_s kmath_i kmath_min_c (by decide) (Nat.le_of_ble_eq_true rfl) rm_c dX3_widthOfCell_22 ?_
  refine lv_istore (lv' := [(4, .int (Int32.ofInt (min ((M 1 u1 1) + (M 1 u1 3)) 6))), (3, .int (Int32.ofInt (max 0 ((M 1 u1 12) - 1)))), (0, .ref (α 4 0)), (1, .ref (α 1 u1)), (2, .ref (α a2 b2))]) X.1.1 X.1.2.1 dX3_widthOfCell_25 hl (by decide) rfl (fun ls hl => ?_)
  refine lv_aload_n X.1.1 X.1.2.1 dX3_widthOfCell_27 rfl (lv_at hl 3 rfl) ?_
  refine gt_1_1 X hR hu1 kw_989 dX3_widthOfCell_28 ?_
  have r6 := hR.r 1 u1 1
  refine lv_istore (lv' := [(5, .int (Int32.ofInt (M 1 u1 1))), (4, .int (Int32.ofInt (min ((M 1 u1 1) + (M 1 u1 3)) 6))), (3, .int (Int32.ofInt (max 0 ((M 1 u1 12) - 1)))), (0, .ref (α 4 0)), (1, .ref (α 1 u1)), (2, .ref (α a2 b2))]) X.1.1 X.1.2.1 dX3_widthOfCell_31 hl (by decide) rfl (fun ls hl => ?_)
  obtain ⟨n17, hw⟩ := hw
  exact t_X3_widthOfCell_33 X hu1 ha2 hoa2 n17 _ _ _ _ hw (inR_max (inR_c (a := 0) rfl) c2) (inR_min c5 (inR_c (a := 6) rfl)) r6 _ _ hR hS _ (lv_sub hl [3, 5, 2, 1, 0] rfl)
theorem m_X3_widthOfCell {l : Launch} {G : Gx} {e0 : Nat} {α : Ax} {κ : Nat → Int} {B : Nat} {u1 : Int} {a2 : Nat} {b2 : Int} (hκ : kOK κ) (hu1 : okk κ 1 u1) (ha2 : A6 a2) (hoa2 : okk κ a2 b2) {M : Mem} {Qm : Int → Mem → Prop} (hw : wp_X3_widthOfCell u1 a2 b2 M Qm) : CI l yX3_widthOfCell (Cond.code yX3_widthOfCell cX3_widthOfCell 6 (some .int)) 1 G e0 α κ B [.ref (α 4 0), .ref (α 1 u1), .ref (α a2 b2)] M Qm :=
  CI.mk hκ (by decide +kernel) rfl (Nat.le_of_ble_eq_true rfl) (lv := [(0, .ref (α 4 0)), (1, .ref (α 1 u1)), (2, .ref (α a2 b2))]) rfl (fun p e s m args below meth c ls X hR hS hl => t_X3_widthOfCell X hu1 ha2 hoa2 hw _ _ hR hS ls hl)
theorem cs_X3_widthOfCell {cc : ByteArray} {nL : Nat} {own : String} {ret : Option FieldType} {idx pc : Nat} {u1 : Int} {a2 : Nat} {b2 : Int} (X : CX p m c cc nL s args own G B κ meth ret) (hu1 : okk κ 1 u1) (ha2 : A6 a2) (hoa2 : okk κ a2 b2) {kc : Nat} {R : Room} {cells slots : Nat} (hRr : RmOK R kc) (hcel : cells ≤ R.cells ∧ slots ≤ R.slots) (hk : 1 + 1 ≤ kc) {M : Mem} {H : Heap} {locs : List Loc} (hR : Rp G e0 α κ B M H) (hS : va_S (fun q => B ≤ q) s.heap H locs) (k1 : Cond.methodLink own idx yX3_widthOfCell ∈ gw) {ls : Array Slot} (hml : ls.size = nL) {rest : List Value} (hd : decode cc pc = .ok (.invokevirtual idx, 3)) (hrest : (rest.map fun v => v.category).sum ≤ 8) {Q : State → Prop} {Qm : Int → Mem → Prop} (hw : wp_X3_widthOfCell u1 a2 b2 M Qm) (kk : ∀ (r : Int) (M1 : Mem) (H1 : Heap) (locs1 : List Loc), Qm r M1 → inR r → Rp G e0 α κ B M1 H1 → va_S (fun q => B ≤ q) s.heap H1 locs1 → W p l e R s m args below meth c H1 locs1 cells slots Q (F0 m (pc + 3) ls (.int (Int32.ofInt r) :: rest))) : W p l e R s m args below meth c H locs cells slots Q (F0 m pc ls (.ref (α a2 b2) :: .ref (α 1 u1) :: .ref (α 4 0) :: rest)) :=
  sa_callVI 1 (n := 2) (As := [.ref (α 1 u1), .ref (α a2 b2)]) (rest := rest) X.1 X.2.1 hR hS (m_X3_widthOfCell X.2.2.1 hu1 ha2 hoa2 hw) k1 kw_467 kw_468 kw_39 kw_469 ⟨rfl, by decide +kernel, by decide +kernel, by decide +kernel⟩ (rm_ok hRr hk (by decide)) (rc_4 X hR (okf X.2.2.1 rfl)) rfl rfl hrest hml hd hcel kk
end
