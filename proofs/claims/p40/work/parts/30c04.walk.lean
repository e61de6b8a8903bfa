theorem dX0_canBePut_0 : decode cX0_canBePut 0 = .ok (.aload_n 0, 1) := by decide +kernel
theorem dX0_canBePut_1 : decode cX0_canBePut 1 = .ok (.getfield 18, 3) := by decide +kernel
theorem dX0_canBePut_4 : decode cX0_canBePut 4 = .ok (.iload_n 2, 1) := by decide +kernel
theorem dX0_canBePut_5 : decode cX0_canBePut 5 = .ok (.iaload, 1) := by decide +kernel
theorem dX0_canBePut_6 : decode cX0_canBePut 6 = .ok (.ifCond .ne 12, 3) := by decide +kernel
theorem dX0_canBePut_9 : decode cX0_canBePut 9 = .ok (.aload_n 0, 1) := by decide +kernel
theorem dX0_canBePut_10 : decode cX0_canBePut 10 = .ok (.getfield 15, 3) := by decide +kernel
theorem dX0_canBePut_13 : decode cX0_canBePut 13 = .ok (.iload_n 2, 1) := by decide +kernel
theorem dX0_canBePut_14 : decode cX0_canBePut 14 = .ok (.iaload, 1) := by decide +kernel
theorem dX0_canBePut_15 : decode cX0_canBePut 15 = .ok (.goto 20, 3) := by decide +kernel
theorem dX0_canBePut_18 : decode cX0_canBePut 18 = .ok (.aload_n 0, 1) := by decide +kernel
theorem dX0_canBePut_19 : decode cX0_canBePut 19 = .ok (.getfield 15, 3) := by decide +kernel
theorem dX0_canBePut_22 : decode cX0_canBePut 22 = .ok (.iload_n 2, 1) := by decide +kernel
theorem dX0_canBePut_23 : decode cX0_canBePut 23 = .ok (.iaload, 1) := by decide +kernel
theorem dX0_canBePut_24 : decode cX0_canBePut 24 = .ok (.aload_n 0, 1) := by decide +kernel
theorem dX0_canBePut_25 : decode cX0_canBePut 25 = .ok (.getfield 18, 3) := by decide +kernel
theorem dX0_canBePut_28 : decode cX0_canBePut 28 = .ok (.iload_n 2, 1) := by decide +kernel
theorem dX0_canBePut_29 : decode cX0_canBePut 29 = .ok (.iaload, 1) := by decide +kernel
theorem dX0_canBePut_30 : decode cX0_canBePut 30 = .ok (.iconst 1, 1) := by decide +kernel
theorem dX0_canBePut_31 : decode cX0_canBePut 31 = .ok (.iadd, 1) := by decide +kernel
theorem dX0_canBePut_32 : decode cX0_canBePut 32 = .ok (.invokestatic 69, 3) := by decide +kernel
theorem dX0_canBePut_35 : decode cX0_canBePut 35 = .ok (.istore 4, 2) := by decide +kernel
theorem dX0_canBePut_37 : decode cX0_canBePut 37 = .ok (.iload_n 1, 1) := by decide +kernel
theorem dX0_canBePut_38 : decode cX0_canBePut 38 = .ok (.invokestatic 65, 3) := by decide +kernel
theorem dX0_canBePut_41 : decode cX0_canBePut 41 = .ok (.iload 4, 2) := by decide +kernel
theorem dX0_canBePut_43 : decode cX0_canBePut 43 = .ok (.iadd, 1) := by decide +kernel
theorem dX0_canBePut_44 : decode cX0_canBePut 44 = .ok (.iload_n 3, 1) := by decide +kernel
theorem dX0_canBePut_45 : decode cX0_canBePut 45 = .ok (.if_icmp .gt 7, 3) := by decide +kernel
theorem dX0_canBePut_48 : decode cX0_canBePut 48 = .ok (.iconst 1, 1) := by decide +kernel
theorem dX0_canBePut_49 : decode cX0_canBePut 49 = .ok (.goto 4, 3) := by decide +kernel
theorem dX0_canBePut_52 : decode cX0_canBePut 52 = .ok (.iconst 0, 1) := by decide +kernel
theorem dX0_canBePut_53 : decode cX0_canBePut 53 = .ok (.ireturn, 1) := by decide +kernel
theorem dX2_countNoteLines_0 : decode cX2_countNoteLines 0 = .ok (.aload_n 0, 1) := by decide +kernel
theorem dX2_countNoteLines_1 : decode cX2_countNoteLines 1 = .ok (.getfield 25, 3) := by decide +kernel
theorem dX2_countNoteLines_4 : decode cX2_countNoteLines 4 = .ok (.iconst 0, 1) := by decide +kernel
theorem dX2_countNoteLines_5 : decode cX2_countNoteLines 5 = .ok (.invokestatic 125, 3) := by decide +kernel
theorem dX2_countNoteLines_8 : decode cX2_countNoteLines 8 = .ok (.iconst 0, 1) := by decide +kernel
theorem dX2_countNoteLines_9 : decode cX2_countNoteLines 9 = .ok (.istore_n 1, 1) := by decide +kernel
theorem dX2_countNoteLines_10 : decode cX2_countNoteLines 10 = .ok (.iconst 0, 1) := by decide +kernel
theorem dX2_countNoteLines_11 : decode cX2_countNoteLines 11 = .ok (.istore_n 2, 1) := by decide +kernel
theorem dX2_countNoteLines_12 : decode cX2_countNoteLines 12 = .ok (.iload_n 2, 1) := by decide +kernel
theorem dX2_countNoteLines_13 : decode cX2_countNoteLines 13 = .ok (.aload_n 0, 1) := by decide +kernel
theorem dX2_countNoteLines_14 : decode cX2_countNoteLines 14 = .ok (.getfield 28, 3) := by decide +kernel
theorem dX2_countNoteLines_17 : decode cX2_countNoteLines 17 = .ok (.getfield 131, 3) := by decide +kernel
theorem dX2_countNoteLines_20 : decode cX2_countNoteLines 20 = .ok (.invokevirtual 96, 3) := by decide +kernel
theorem dX2_countNoteLines_23 : decode cX2_countNoteLines 23 = .ok (.if_icmp .ge 68, 3) := by decide +kernel
theorem dX2_countNoteLines_26 : decode cX2_countNoteLines 26 = .ok (.aload_n 0, 1) := by decide +kernel
theorem dX2_countNoteLines_27 : decode cX2_countNoteLines 27 = .ok (.getfield 28, 3) := by decide +kernel
theorem dX2_countNoteLines_30 : decode cX2_countNoteLines 30 = .ok (.getfield 131, 3) := by decide +kernel
theorem dX2_countNoteLines_33 : decode cX2_countNoteLines 33 = .ok (.iload_n 2, 1) := by decide +kernel
theorem dX2_countNoteLines_34 : decode cX2_countNoteLines 34 = .ok (.invokevirtual 101, 3) := by decide +kernel
theorem dX2_countNoteLines_37 : decode cX2_countNoteLines 37 = .ok (.checkcast 134, 3) := by decide +kernel
theorem dX2_countNoteLines_40 : decode cX2_countNoteLines 40 = .ok (.astore_n 3, 1) := by decide +kernel
theorem dX2_countNoteLines_41 : decode cX2_countNoteLines 41 = .ok (.aload_n 3, 1) := by decide +kernel
theorem dX2_countNoteLines_42 : decode cX2_countNoteLines 42 = .ok (.getfield 136, 3) := by decide +kernel
theorem dX2_countNoteLines_45 : decode cX2_countNoteLines 45 = .ok (.getfield 107, 3) := by decide +kernel
theorem dX2_countNoteLines_48 : decode cX2_countNoteLines 48 = .ok (.istore 4, 2) := by decide +kernel
theorem dX2_countNoteLines_50 : decode cX2_countNoteLines 50 = .ok (.aload_n 3, 1) := by decide +kernel
theorem dX2_countNoteLines_51 : decode cX2_countNoteLines 51 = .ok (.invokevirtual 140, 3) := by decide +kernel
theorem dX2_countNoteLines_54 : decode cX2_countNoteLines 54 = .ok (.ifCond .ne 31, 3) := by decide +kernel
theorem dX2_countNoteLines_57 : decode cX2_countNoteLines 57 = .ok (.iload 4, 2) := by decide +kernel
theorem dX2_countNoteLines_59 : decode cX2_countNoteLines 59 = .ok (.bipush 29, 2) := by decide +kernel
theorem dX2_countNoteLines_61 : decode cX2_countNoteLines 61 = .ok (.if_icmp .ge 24, 3) := by decide +kernel
theorem dX2_countNoteLines_64 : decode cX2_countNoteLines 64 = .ok (.aload_n 0, 1) := by decide +kernel
theorem dX2_countNoteLines_65 : decode cX2_countNoteLines 65 = .ok (.getfield 25, 3) := by decide +kernel
theorem dX2_countNoteLines_68 : decode cX2_countNoteLines 68 = .ok (.iload 4, 2) := by decide +kernel
theorem dX2_countNoteLines_70 : decode cX2_countNoteLines 70 = .ok (.dup2, 1) := by decide +kernel
theorem dX2_countNoteLines_71 : decode cX2_countNoteLines 71 = .ok (.iaload, 1) := by decide +kernel
theorem dX2_countNoteLines_72 : decode cX2_countNoteLines 72 = .ok (.aload_n 3, 1) := by decide +kernel
theorem dX2_countNoteLines_73 : decode cX2_countNoteLines 73 = .ok (.getfield 144, 3) := by decide +kernel
theorem dX2_countNoteLines_76 : decode cX2_countNoteLines 76 = .ok (.iadd, 1) := by decide +kernel
theorem dX2_countNoteLines_77 : decode cX2_countNoteLines 77 = .ok (.iastore, 1) := by decide +kernel
theorem dX2_countNoteLines_78 : decode cX2_countNoteLines 78 = .ok (.iload_n 1, 1) := by decide +kernel
theorem dX2_countNoteLines_79 : decode cX2_countNoteLines 79 = .ok (.aload_n 3, 1) := by decide +kernel
theorem dX2_countNoteLines_80 : decode cX2_countNoteLines 80 = .ok (.getfield 144, 3) := by decide +kernel
theorem dX2_countNoteLines_83 : decode cX2_countNoteLines 83 = .ok (.iadd, 1) := by decide +kernel
theorem dX2_countNoteLines_84 : decode cX2_countNoteLines 84 = .ok (.istore_n 1, 1) := by decide +kernel
theorem dX2_countNoteLines_85 : decode cX2_countNoteLines 85 = .ok (.iinc 2 1, 3) := by decide +kernel
theorem dX2_countNoteLines_88 : decode cX2_countNoteLines 88 = .ok (.goto (-76), 3) := by decide +kernel
theorem dX2_countNoteLines_91 : decode cX2_countNoteLines 91 = .ok (.iload_n 1, 1) := by decide +kernel
theorem dX2_countNoteLines_92 : decode cX2_countNoteLines 92 = .ok (.ireturn, 1) := by decide +kernel
theorem dX2_openPage_0 : decode cX2_openPage 0 = .ok (.aload_n 0, 1) := by decide +kernel
theorem dX2_openPage_1 : decode cX2_openPage 1 = .ok (.getfield 36, 3) := by decide +kernel
theorem dX2_openPage_4 : decode cX2_openPage 4 = .ok (.invokevirtual 147, 3) := by decide +kernel
theorem dX2_openPage_7 : decode cX2_openPage 7 = .ok (.aload_n 0, 1) := by decide +kernel
theorem dX2_openPage_8 : decode cX2_openPage 8 = .ok (.iconst 1, 1) := by decide +kernel
theorem dX2_openPage_9 : decode cX2_openPage 9 = .ok (.putfield 148, 3) := by decide +kernel
theorem dX2_openPage_12 : decode cX2_openPage 12 = .ok (.aload_n 0, 1) := by decide +kernel
theorem dX2_openPage_13 : decode cX2_openPage 13 = .ok (.aload_n 0, 1) := by decide +kernel
theorem dX2_openPage_14 : decode cX2_openPage 14 = .ok (.getfield 40, 3) := by decide +kernel
theorem dX2_openPage_17 : decode cX2_openPage 17 = .ok (.aload_n 0, 1) := by decide +kernel
theorem dX2_openPage_18 : decode cX2_openPage 18 = .ok (.getfield 59, 3) := by decide +kernel
theorem dX2_openPage_21 : decode cX2_openPage 21 = .ok (.isub, 1) := by decide +kernel
theorem dX2_openPage_22 : decode cX2_openPage 22 = .ok (.aload_n 0, 1) := by decide +kernel
theorem dX2_openPage_23 : decode cX2_openPage 23 = .ok (.getfield 36, 3) := by decide +kernel
theorem dX2_openPage_26 : decode cX2_openPage 26 = .ok (.getfield 151, 3) := by decide +kernel
theorem dX2_openPage_29 : decode cX2_openPage 29 = .ok (.iconst 1, 1) := by decide +kernel
theorem dX2_openPage_30 : decode cX2_openPage 30 = .ok (.if_icmp .le 12, 3) := by decide +kernel
theorem dX2_openPage_33 : decode cX2_openPage 33 = .ok (.iconst 1, 1) := by decide +kernel
theorem dX2_openPage_34 : decode cX2_openPage 34 = .ok (.aload_n 0, 1) := by decide +kernel
theorem dX2_openPage_35 : decode cX2_openPage 35 = .ok (.getfield 50, 3) := by decide +kernel
theorem dX2_openPage_38 : decode cX2_openPage 38 = .ok (.iadd, 1) := by decide +kernel
theorem dX2_openPage_39 : decode cX2_openPage 39 = .ok (.goto 4, 3) := by decide +kernel
theorem dX2_openPage_42 : decode cX2_openPage 42 = .ok (.iconst 0, 1) := by decide +kernel
theorem dX2_openPage_43 : decode cX2_openPage 43 = .ok (.isub, 1) := by decide +kernel
theorem dX2_openPage_44 : decode cX2_openPage 44 = .ok (.putfield 154, 3) := by decide +kernel
theorem dX2_openPage_47 : decode cX2_openPage 47 = .ok (.return_, 1) := by decide +kernel
theorem dX2_putPiece_0 : decode cX2_putPiece 0 = .ok (.iload_n 1, 1) := by decide +kernel
theorem dX2_putPiece_1 : decode cX2_putPiece 1 = .ok (.ifCond .lt 51, 3) := by decide +kernel
theorem dX2_putPiece_4 : decode cX2_putPiece 4 = .ok (.iload_n 1, 1) := by decide +kernel
theorem dX2_putPiece_5 : decode cX2_putPiece 5 = .ok (.bipush 50, 2) := by decide +kernel
theorem dX2_putPiece_7 : decode cX2_putPiece 7 = .ok (.if_icmp .ge 45, 3) := by decide +kernel
theorem dX2_putPiece_10 : decode cX2_putPiece 10 = .ok (.aload_n 0, 1) := by decide +kernel
theorem dX2_putPiece_11 : decode cX2_putPiece 11 = .ok (.getfield 36, 3) := by decide +kernel
theorem dX2_putPiece_14 : decode cX2_putPiece 14 = .ok (.aload_n 0, 1) := by decide +kernel
theorem dX2_putPiece_15 : decode cX2_putPiece 15 = .ok (.getfield 9, 3) := by decide +kernel
theorem dX2_putPiece_18 : decode cX2_putPiece 18 = .ok (.iload_n 1, 1) := by decide +kernel
theorem dX2_putPiece_19 : decode cX2_putPiece 19 = .ok (.iaload, 1) := by decide +kernel
theorem dX2_putPiece_20 : decode cX2_putPiece 20 = .ok (.aload_n 0, 1) := by decide +kernel
theorem dX2_putPiece_21 : decode cX2_putPiece 21 = .ok (.getfield 15, 3) := by decide +kernel
theorem dX2_putPiece_24 : decode cX2_putPiece 24 = .ok (.iload_n 1, 1) := by decide +kernel
theorem dX2_putPiece_25 : decode cX2_putPiece 25 = .ok (.iaload, 1) := by decide +kernel
theorem dX2_putPiece_26 : decode cX2_putPiece 26 = .ok (.iload_n 2, 1) := by decide +kernel
theorem dX2_putPiece_27 : decode cX2_putPiece 27 = .ok (.isub, 1) := by decide +kernel
theorem dX2_putPiece_28 : decode cX2_putPiece 28 = .ok (.iload_n 3, 1) := by decide +kernel
theorem dX2_putPiece_29 : decode cX2_putPiece 29 = .ok (.iload 4, 2) := by decide +kernel
theorem dX2_putPiece_31 : decode cX2_putPiece 31 = .ok (.invokevirtual 161, 3) := by decide +kernel
theorem dX2_putPiece_34 : decode cX2_putPiece 34 = .ok (.aload_n 0, 1) := by decide +kernel
theorem dX2_putPiece_35 : decode cX2_putPiece 35 = .ok (.dup, 1) := by decide +kernel
theorem dX2_putPiece_36 : decode cX2_putPiece 36 = .ok (.getfield 154, 3) := by decide +kernel
theorem dX2_putPiece_39 : decode cX2_putPiece 39 = .ok (.iload_n 3, 1) := by decide +kernel
theorem dX2_putPiece_40 : decode cX2_putPiece 40 = .ok (.iload 4, 2) := by decide +kernel
theorem dX2_putPiece_42 : decode cX2_putPiece 42 = .ok (.iadd, 1) := by decide +kernel
theorem dX2_putPiece_43 : decode cX2_putPiece 43 = .ok (.isub, 1) := by decide +kernel
theorem dX2_putPiece_44 : decode cX2_putPiece 44 = .ok (.putfield 154, 3) := by decide +kernel
theorem dX2_putPiece_47 : decode cX2_putPiece 47 = .ok (.aload_n 0, 1) := by decide +kernel
theorem dX2_putPiece_48 : decode cX2_putPiece 48 = .ok (.iconst 0, 1) := by decide +kernel
theorem dX2_putPiece_49 : decode cX2_putPiece 49 = .ok (.putfield 148, 3) := by decide +kernel
theorem dX2_putPiece_52 : decode cX2_putPiece 52 = .ok (.return_, 1) := by decide +kernel
theorem dX3_putBodyInOrder_0 : decode cX3_putBodyInOrder 0 = .ok (.iconst 1, 1) := by decide +kernel
theorem dX3_putBodyInOrder_1 : decode cX3_putBodyInOrder 1 = .ok (.istore_n 3, 1) := by decide +kernel
theorem dX3_putBodyInOrder_2 : decode cX3_putBodyInOrder 2 = .ok (.iload_n 3, 1) := by decide +kernel
theorem dX3_putBodyInOrder_3 : decode cX3_putBodyInOrder 3 = .ok (.aload_n 0, 1) := by decide +kernel
theorem dX3_putBodyInOrder_4 : decode cX3_putBodyInOrder 4 = .ok (.getfield 27, 3) := by decide +kernel
theorem dX3_putBodyInOrder_7 : decode cX3_putBodyInOrder 7 = .ok (.invokevirtual 37, 3) := by decide +kernel
theorem dX3_putBodyInOrder_10 : decode cX3_putBodyInOrder 10 = .ok (.if_icmp .ge 97, 3) := by decide +kernel
theorem dX3_putBodyInOrder_13 : decode cX3_putBodyInOrder 13 = .ok (.aload_n 0, 1) := by decide +kernel
theorem dX3_putBodyInOrder_14 : decode cX3_putBodyInOrder 14 = .ok (.getfield 27, 3) := by decide +kernel
theorem dX3_putBodyInOrder_17 : decode cX3_putBodyInOrder 17 = .ok (.iload_n 3, 1) := by decide +kernel
theorem dX3_putBodyInOrder_18 : decode cX3_putBodyInOrder 18 = .ok (.invokevirtual 45, 3) := by decide +kernel
theorem dX3_putBodyInOrder_21 : decode cX3_putBodyInOrder 21 = .ok (.checkcast 49, 3) := by decide +kernel
theorem dX3_putBodyInOrder_24 : decode cX3_putBodyInOrder 24 = .ok (.astore 4, 2) := by decide +kernel
theorem dX3_putBodyInOrder_26 : decode cX3_putBodyInOrder 26 = .ok (.iload_n 3, 1) := by decide +kernel
theorem dX3_putBodyInOrder_27 : decode cX3_putBodyInOrder 27 = .ok (.istore 5, 2) := by decide +kernel
theorem dX3_putBodyInOrder_29 : decode cX3_putBodyInOrder 29 = .ok (.iload 5, 2) := by decide +kernel
theorem dX3_putBodyInOrder_31 : decode cX3_putBodyInOrder 31 = .ok (.ifCond .le 58, 3) := by decide +kernel
theorem dX3_putBodyInOrder_34 : decode cX3_putBodyInOrder 34 = .ok (.aload_n 0, 1) := by decide +kernel
theorem dX3_putBodyInOrder_35 : decode cX3_putBodyInOrder 35 = .ok (.aload 4, 2) := by decide +kernel
theorem dX3_putBodyInOrder_37 : decode cX3_putBodyInOrder 37 = .ok (.aload_n 0, 1) := by decide +kernel
theorem dX3_putBodyInOrder_38 : decode cX3_putBodyInOrder 38 = .ok (.getfield 27, 3) := by decide +kernel
theorem dX3_putBodyInOrder_41 : decode cX3_putBodyInOrder 41 = .ok (.iload 5, 2) := by decide +kernel
theorem dX3_putBodyInOrder_43 : decode cX3_putBodyInOrder 43 = .ok (.iconst 1, 1) := by decide +kernel
theorem dX3_putBodyInOrder_44 : decode cX3_putBodyInOrder 44 = .ok (.isub, 1) := by decide +kernel
theorem dX3_putBodyInOrder_45 : decode cX3_putBodyInOrder 45 = .ok (.invokevirtual 45, 3) := by decide +kernel
theorem dX3_putBodyInOrder_48 : decode cX3_putBodyInOrder 48 = .ok (.checkcast 49, 3) := by decide +kernel
theorem dX3_putBodyInOrder_51 : decode cX3_putBodyInOrder 51 = .ok (.iload_n 1, 1) := by decide +kernel
theorem dX3_putBodyInOrder_52 : decode cX3_putBodyInOrder 52 = .ok (.iload_n 2, 1) := by decide +kernel
theorem dX3_putBodyInOrder_53 : decode cX3_putBodyInOrder 53 = .ok (.invokevirtual 152, 3) := by decide +kernel
theorem dX3_putBodyInOrder_56 : decode cX3_putBodyInOrder 56 = .ok (.ifCond .eq 33, 3) := by decide +kernel
theorem dX3_putBodyInOrder_59 : decode cX3_putBodyInOrder 59 = .ok (.aload_n 0, 1) := by decide +kernel
theorem dX3_putBodyInOrder_60 : decode cX3_putBodyInOrder 60 = .ok (.getfield 27, 3) := by decide +kernel
theorem dX3_putBodyInOrder_63 : decode cX3_putBodyInOrder 63 = .ok (.iload 5, 2) := by decide +kernel
theorem dX3_putBodyInOrder_65 : decode cX3_putBodyInOrder 65 = .ok (.aload_n 0, 1) := by decide +kernel
theorem dX3_putBodyInOrder_66 : decode cX3_putBodyInOrder 66 = .ok (.getfield 27, 3) := by decide +kernel
theorem dX3_putBodyInOrder_69 : decode cX3_putBodyInOrder 69 = .ok (.iload 5, 2) := by decide +kernel
theorem dX3_putBodyInOrder_71 : decode cX3_putBodyInOrder 71 = .ok (.iconst 1, 1) := by decide +kernel
theorem dX3_putBodyInOrder_72 : decode cX3_putBodyInOrder 72 = .ok (.isub, 1) := by decide +kernel
theorem dX3_putBodyInOrder_73 : decode cX3_putBodyInOrder 73 = .ok (.invokevirtual 45, 3) := by decide +kernel
theorem dX3_putBodyInOrder_76 : decode cX3_putBodyInOrder 76 = .ok (.checkcast 49, 3) := by decide +kernel
theorem dX3_putBodyInOrder_79 : decode cX3_putBodyInOrder 79 = .ok (.invokevirtual 156, 3) := by decide +kernel
theorem dX3_putBodyInOrder_82 : decode cX3_putBodyInOrder 82 = .ok (.pop, 1) := by decide +kernel
theorem dX3_putBodyInOrder_83 : decode cX3_putBodyInOrder 83 = .ok (.iinc 5 (-1), 3) := by decide +kernel
theorem dX3_putBodyInOrder_86 : decode cX3_putBodyInOrder 86 = .ok (.goto (-57), 3) := by decide +kernel
theorem dX3_putBodyInOrder_89 : decode cX3_putBodyInOrder 89 = .ok (.aload_n 0, 1) := by decide +kernel
theorem dX3_putBodyInOrder_90 : decode cX3_putBodyInOrder 90 = .ok (.getfield 27, 3) := by decide +kernel
theorem dX3_putBodyInOrder_93 : decode cX3_putBodyInOrder 93 = .ok (.iload 5, 2) := by decide +kernel
theorem dX3_putBodyInOrder_95 : decode cX3_putBodyInOrder 95 = .ok (.aload 4, 2) := by decide +kernel
theorem dX3_putBodyInOrder_97 : decode cX3_putBodyInOrder 97 = .ok (.invokevirtual 156, 3) := by decide +kernel
theorem dX3_putBodyInOrder_100 : decode cX3_putBodyInOrder 100 = .ok (.pop, 1) := by decide +kernel
theorem dX3_putBodyInOrder_101 : decode cX3_putBodyInOrder 101 = .ok (.iinc 3 1, 3) := by decide +kernel
theorem dX3_putBodyInOrder_104 : decode cX3_putBodyInOrder 104 = .ok (.goto (-102), 3) := by decide +kernel
theorem dX3_putBodyInOrder_107 : decode cX3_putBodyInOrder 107 = .ok (.return_, 1) := by decide +kernel
theorem dX3_setWeight_0 : decode cX3_setWeight 0 = .ok (.iload_n 1, 1) := by decide +kernel
theorem dX3_setWeight_1 : decode cX3_setWeight 1 = .ok (.iconst 3, 1) := by decide +kernel
theorem dX3_setWeight_2 : decode cX3_setWeight 2 = .ok (.if_icmp .ne 18, 3) := by decide +kernel
theorem dX3_setWeight_5 : decode cX3_setWeight 5 = .ok (.aload_n 0, 1) := by decide +kernel
theorem dX3_setWeight_6 : decode cX3_setWeight 6 = .ok (.getfield 167, 3) := by decide +kernel
theorem dX3_setWeight_9 : decode cX3_setWeight 9 = .ok (.istore 5, 2) := by decide +kernel
theorem dX3_setWeight_11 : decode cX3_setWeight 11 = .ok (.aload_n 0, 1) := by decide +kernel
theorem dX3_setWeight_12 : decode cX3_setWeight 12 = .ok (.iload 4, 2) := by decide +kernel
theorem dX3_setWeight_14 : decode cX3_setWeight 14 = .ok (.putfield 167, 3) := by decide +kernel
theorem dX3_setWeight_17 : decode cX3_setWeight 17 = .ok (.goto 21, 3) := by decide +kernel
theorem dX3_setWeight_20 : decode cX3_setWeight 20 = .ok (.aload_n 0, 1) := by decide +kernel
theorem dX3_setWeight_21 : decode cX3_setWeight 21 = .ok (.iload_n 1, 1) := by decide +kernel
theorem dX3_setWeight_22 : decode cX3_setWeight 22 = .ok (.iload_n 2, 1) := by decide +kernel
theorem dX3_setWeight_23 : decode cX3_setWeight 23 = .ok (.iload_n 3, 1) := by decide +kernel
theorem dX3_setWeight_24 : decode cX3_setWeight 24 = .ok (.invokevirtual 170, 3) := by decide +kernel
theorem dX3_setWeight_27 : decode cX3_setWeight 27 = .ok (.istore 5, 2) := by decide +kernel
theorem dX3_setWeight_29 : decode cX3_setWeight 29 = .ok (.aload_n 0, 1) := by decide +kernel
theorem dX3_setWeight_30 : decode cX3_setWeight 30 = .ok (.iload_n 1, 1) := by decide +kernel
theorem dX3_setWeight_31 : decode cX3_setWeight 31 = .ok (.iload_n 2, 1) := by decide +kernel
theorem dX3_setWeight_32 : decode cX3_setWeight 32 = .ok (.iload_n 3, 1) := by decide +kernel
theorem dX3_setWeight_33 : decode cX3_setWeight 33 = .ok (.iload 4, 2) := by decide +kernel
theorem dX3_setWeight_35 : decode cX3_setWeight 35 = .ok (.invokevirtual 174, 3) := by decide +kernel
theorem dX3_setWeight_38 : decode cX3_setWeight 38 = .ok (.iload 5, 2) := by decide +kernel
theorem dX3_setWeight_40 : decode cX3_setWeight 40 = .ok (.ireturn, 1) := by decide +kernel
theorem dX3_rowBeside_0 : decode cX3_rowBeside 0 = .ok (.aload_n 0, 1) := by decide +kernel
theorem dX3_rowBeside_1 : decode cX3_rowBeside 1 = .ok (.iload_n 1, 1) := by decide +kernel
theorem dX3_rowBeside_2 : decode cX3_rowBeside 2 = .ok (.invokevirtual 41, 3) := by decide +kernel
theorem dX3_rowBeside_5 : decode cX3_rowBeside 5 = .ok (.ifCond .ne 5, 3) := by decide +kernel
theorem dX3_rowBeside_8 : decode cX3_rowBeside 8 = .ok (.iconst (-1), 1) := by decide +kernel
theorem dX3_rowBeside_9 : decode cX3_rowBeside 9 = .ok (.ireturn, 1) := by decide +kernel
theorem dX3_rowBeside_10 : decode cX3_rowBeside 10 = .ok (.aload_n 0, 1) := by decide +kernel
theorem dX3_rowBeside_11 : decode cX3_rowBeside 11 = .ok (.getfield 18, 3) := by decide +kernel
theorem dX3_rowBeside_14 : decode cX3_rowBeside 14 = .ok (.iload_n 1, 1) := by decide +kernel
theorem dX3_rowBeside_15 : decode cX3_rowBeside 15 = .ok (.invokevirtual 45, 3) := by decide +kernel
theorem dX3_rowBeside_18 : decode cX3_rowBeside 18 = .ok (.checkcast 49, 3) := by decide +kernel
theorem dX3_rowBeside_21 : decode cX3_rowBeside 21 = .ok (.astore_n 3, 1) := by decide +kernel
theorem dX3_rowBeside_22 : decode cX3_rowBeside 22 = .ok (.aload_n 3, 1) := by decide +kernel
theorem dX3_rowBeside_23 : decode cX3_rowBeside 23 = .ok (.getfield 51, 3) := by decide +kernel
theorem dX3_rowBeside_26 : decode cX3_rowBeside 26 = .ok (.ifCond .ne 7, 3) := by decide +kernel
theorem dX3_rowBeside_29 : decode cX3_rowBeside 29 = .ok (.iconst 0, 1) := by decide +kernel
theorem dX3_rowBeside_30 : decode cX3_rowBeside 30 = .ok (.goto 36, 3) := by decide +kernel
theorem dX3_rowBeside_33 : decode cX3_rowBeside 33 = .ok (.aload_n 3, 1) := by decide +kernel
theorem dX3_rowBeside_34 : decode cX3_rowBeside 34 = .ok (.getfield 51, 3) := by decide +kernel
theorem dX3_rowBeside_37 : decode cX3_rowBeside 37 = .ok (.iconst 1, 1) := by decide +kernel
theorem dX3_rowBeside_38 : decode cX3_rowBeside 38 = .ok (.if_icmp .ne 13, 3) := by decide +kernel
theorem dX3_rowBeside_41 : decode cX3_rowBeside 41 = .ok (.aload_n 0, 1) := by decide +kernel
theorem dX3_rowBeside_42 : decode cX3_rowBeside 42 = .ok (.getfield 24, 3) := by decide +kernel
theorem dX3_rowBeside_45 : decode cX3_rowBeside 45 = .ok (.invokevirtual 37, 3) := by decide +kernel
theorem dX3_rowBeside_48 : decode cX3_rowBeside 48 = .ok (.goto 18, 3) := by decide +kernel
theorem dX3_rowBeside_51 : decode cX3_rowBeside 51 = .ok (.aload_n 0, 1) := by decide +kernel
theorem dX3_rowBeside_52 : decode cX3_rowBeside 52 = .ok (.getfield 24, 3) := by decide +kernel
theorem dX3_rowBeside_55 : decode cX3_rowBeside 55 = .ok (.invokevirtual 37, 3) := by decide +kernel
theorem dX3_rowBeside_58 : decode cX3_rowBeside 58 = .ok (.aload_n 0, 1) := by decide +kernel
theorem dX3_rowBeside_59 : decode cX3_rowBeside 59 = .ok (.getfield 27, 3) := by decide +kernel
theorem dX3_rowBeside_62 : decode cX3_rowBeside 62 = .ok (.invokevirtual 37, 3) := by decide +kernel
theorem dX3_rowBeside_65 : decode cX3_rowBeside 65 = .ok (.iadd, 1) := by decide +kernel
theorem dX3_rowBeside_66 : decode cX3_rowBeside 66 = .ok (.istore 4, 2) := by decide +kernel
theorem dX3_rowBeside_68 : decode cX3_rowBeside 68 = .ok (.aload_n 0, 1) := by decide +kernel
theorem dX3_rowBeside_69 : decode cX3_rowBeside 69 = .ok (.iload 4, 2) := by decide +kernel
theorem dX3_rowBeside_71 : decode cX3_rowBeside 71 = .ok (.aload_n 3, 1) := by decide +kernel
theorem dX3_rowBeside_72 : decode cX3_rowBeside 72 = .ok (.getfield 75, 3) := by decide +kernel
theorem dX3_rowBeside_75 : decode cX3_rowBeside 75 = .ok (.iadd, 1) := by decide +kernel
theorem dX3_rowBeside_76 : decode cX3_rowBeside 76 = .ok (.iload_n 2, 1) := by decide +kernel
theorem dX3_rowBeside_77 : decode cX3_rowBeside 77 = .ok (.iadd, 1) := by decide +kernel
theorem dX3_rowBeside_78 : decode cX3_rowBeside 78 = .ok (.invokevirtual 183, 3) := by decide +kernel
theorem dX3_rowBeside_81 : decode cX3_rowBeside 81 = .ok (.ireturn, 1) := by decide +kernel
theorem dX4_stackRows_0 : decode cX4_stackRows 0 = .ok (.aload_n 0, 1) := by decide +kernel
theorem dX4_stackRows_1 : decode cX4_stackRows 1 = .ok (.getfield 15, 3) := by decide +kernel
theorem dX4_stackRows_4 : decode cX4_stackRows 4 = .ok (.iconst 1, 1) := by decide +kernel
theorem dX4_stackRows_5 : decode cX4_stackRows 5 = .ok (.invokestatic 52, 3) := by decide +kernel
theorem dX4_stackRows_8 : decode cX4_stackRows 8 = .ok (.iconst 1, 1) := by decide +kernel
theorem dX4_stackRows_9 : decode cX4_stackRows 9 = .ok (.istore_n 1, 1) := by decide +kernel
theorem dX4_stackRows_10 : decode cX4_stackRows 10 = .ok (.iconst 0, 1) := by decide +kernel
theorem dX4_stackRows_11 : decode cX4_stackRows 11 = .ok (.istore_n 2, 1) := by decide +kernel
theorem dX4_stackRows_12 : decode cX4_stackRows 12 = .ok (.iload_n 2, 1) := by decide +kernel
theorem dX4_stackRows_13 : decode cX4_stackRows 13 = .ok (.aload_n 0, 1) := by decide +kernel
theorem dX4_stackRows_14 : decode cX4_stackRows 14 = .ok (.getfield 18, 3) := by decide +kernel
theorem dX4_stackRows_17 : decode cX4_stackRows 17 = .ok (.getfield 22, 3) := by decide +kernel
theorem dX4_stackRows_20 : decode cX4_stackRows 20 = .ok (.invokevirtual 28, 3) := by decide +kernel
theorem dX4_stackRows_23 : decode cX4_stackRows 23 = .ok (.if_icmp .ge 86, 3) := by decide +kernel
theorem dX4_stackRows_26 : decode cX4_stackRows 26 = .ok (.iload_n 2, 1) := by decide +kernel
theorem dX4_stackRows_27 : decode cX4_stackRows 27 = .ok (.bipush 100, 2) := by decide +kernel
theorem dX4_stackRows_29 : decode cX4_stackRows 29 = .ok (.if_icmp .ge 80, 3) := by decide +kernel
theorem dX4_stackRows_32 : decode cX4_stackRows 32 = .ok (.aload_n 0, 1) := by decide +kernel
theorem dX4_stackRows_33 : decode cX4_stackRows 33 = .ok (.getfield 18, 3) := by decide +kernel
theorem dX4_stackRows_36 : decode cX4_stackRows 36 = .ok (.getfield 22, 3) := by decide +kernel
theorem dX4_stackRows_39 : decode cX4_stackRows 39 = .ok (.iload_n 2, 1) := by decide +kernel
theorem dX4_stackRows_40 : decode cX4_stackRows 40 = .ok (.invokevirtual 34, 3) := by decide +kernel
theorem dX4_stackRows_43 : decode cX4_stackRows 43 = .ok (.checkcast 38, 3) := by decide +kernel
theorem dX4_stackRows_46 : decode cX4_stackRows 46 = .ok (.astore_n 3, 1) := by decide +kernel
theorem dX4_stackRows_47 : decode cX4_stackRows 47 = .ok (.aload_n 3, 1) := by decide +kernel
theorem dX4_stackRows_48 : decode cX4_stackRows 48 = .ok (.getfield 58, 3) := by decide +kernel
theorem dX4_stackRows_51 : decode cX4_stackRows 51 = .ok (.getfield 62, 3) := by decide +kernel
theorem dX4_stackRows_54 : decode cX4_stackRows 54 = .ok (.istore 4, 2) := by decide +kernel
theorem dX4_stackRows_56 : decode cX4_stackRows 56 = .ok (.aload_n 3, 1) := by decide +kernel
theorem dX4_stackRows_57 : decode cX4_stackRows 57 = .ok (.getfield 68, 3) := by decide +kernel
theorem dX4_stackRows_60 : decode cX4_stackRows 60 = .ok (.iconst 1, 1) := by decide +kernel
theorem dX4_stackRows_61 : decode cX4_stackRows 61 = .ok (.if_icmp .ne 33, 3) := by decide +kernel
theorem dX4_stackRows_64 : decode cX4_stackRows 64 = .ok (.iload 4, 2) := by decide +kernel
theorem dX4_stackRows_66 : decode cX4_stackRows 66 = .ok (.bipush 29, 2) := by decide +kernel
theorem dX4_stackRows_68 : decode cX4_stackRows 68 = .ok (.if_icmp .ge 26, 3) := by decide +kernel
theorem dX4_stackRows_71 : decode cX4_stackRows 71 = .ok (.aload_n 0, 1) := by decide +kernel
theorem dX4_stackRows_72 : decode cX4_stackRows 72 = .ok (.getfield 15, 3) := by decide +kernel
theorem dX4_stackRows_75 : decode cX4_stackRows 75 = .ok (.iload 4, 2) := by decide +kernel
theorem dX4_stackRows_77 : decode cX4_stackRows 77 = .ok (.aload_n 0, 1) := by decide +kernel
theorem dX4_stackRows_78 : decode cX4_stackRows 78 = .ok (.getfield 15, 3) := by decide +kernel
theorem dX4_stackRows_81 : decode cX4_stackRows 81 = .ok (.iload 4, 2) := by decide +kernel
theorem dX4_stackRows_83 : decode cX4_stackRows 83 = .ok (.iaload, 1) := by decide +kernel
theorem dX4_stackRows_84 : decode cX4_stackRows 84 = .ok (.aload_n 0, 1) := by decide +kernel
theorem dX4_stackRows_85 : decode cX4_stackRows 85 = .ok (.getfield 9, 3) := by decide +kernel
theorem dX4_stackRows_88 : decode cX4_stackRows 88 = .ok (.iload_n 2, 1) := by decide +kernel
theorem dX4_stackRows_89 : decode cX4_stackRows 89 = .ok (.iaload, 1) := by decide +kernel
theorem dX4_stackRows_90 : decode cX4_stackRows 90 = .ok (.invokestatic 71, 3) := by decide +kernel
theorem dX4_stackRows_93 : decode cX4_stackRows 93 = .ok (.iastore, 1) := by decide +kernel
theorem dX4_stackRows_94 : decode cX4_stackRows 94 = .ok (.iload_n 1, 1) := by decide +kernel
theorem dX4_stackRows_95 : decode cX4_stackRows 95 = .ok (.aload_n 3, 1) := by decide +kernel
theorem dX4_stackRows_96 : decode cX4_stackRows 96 = .ok (.getfield 68, 3) := by decide +kernel
theorem dX4_stackRows_99 : decode cX4_stackRows 99 = .ok (.invokestatic 71, 3) := by decide +kernel
theorem dX4_stackRows_102 : decode cX4_stackRows 102 = .ok (.istore_n 1, 1) := by decide +kernel
theorem dX4_stackRows_103 : decode cX4_stackRows 103 = .ok (.iinc 2 1, 3) := by decide +kernel
theorem dX4_stackRows_106 : decode cX4_stackRows 106 = .ok (.goto (-94), 3) := by decide +kernel
theorem dX4_stackRows_109 : decode cX4_stackRows 109 = .ok (.iconst 2, 1) := by decide +kernel
theorem dX4_stackRows_110 : decode cX4_stackRows 110 = .ok (.istore_n 2, 1) := by decide +kernel
theorem dX4_stackRows_111 : decode cX4_stackRows 111 = .ok (.iload_n 2, 1) := by decide +kernel
theorem dX4_stackRows_112 : decode cX4_stackRows 112 = .ok (.iload_n 1, 1) := by decide +kernel
theorem dX4_stackRows_113 : decode cX4_stackRows 113 = .ok (.if_icmp .gt 87, 3) := by decide +kernel
theorem dX4_stackRows_116 : decode cX4_stackRows 116 = .ok (.iload_n 2, 1) := by decide +kernel
theorem dX4_stackRows_117 : decode cX4_stackRows 117 = .ok (.iconst 4, 1) := by decide +kernel
theorem dX4_stackRows_118 : decode cX4_stackRows 118 = .ok (.if_icmp .gt 82, 3) := by decide +kernel
theorem dX4_stackRows_121 : decode cX4_stackRows 121 = .ok (.iconst 0, 1) := by decide +kernel
theorem dX4_stackRows_122 : decode cX4_stackRows 122 = .ok (.istore_n 3, 1) := by decide +kernel
theorem dX4_stackRows_123 : decode cX4_stackRows 123 = .ok (.iload_n 3, 1) := by decide +kernel
theorem dX4_stackRows_124 : decode cX4_stackRows 124 = .ok (.aload_n 0, 1) := by decide +kernel
theorem dX4_stackRows_125 : decode cX4_stackRows 125 = .ok (.getfield 18, 3) := by decide +kernel
theorem dX4_stackRows_128 : decode cX4_stackRows 128 = .ok (.getfield 22, 3) := by decide +kernel
theorem dX4_stackRows_131 : decode cX4_stackRows 131 = .ok (.invokevirtual 28, 3) := by decide +kernel
theorem dX4_stackRows_134 : decode cX4_stackRows 134 = .ok (.if_icmp .ge 60, 3) := by decide +kernel
theorem dX4_stackRows_137 : decode cX4_stackRows 137 = .ok (.iload_n 3, 1) := by decide +kernel
theorem dX4_stackRows_138 : decode cX4_stackRows 138 = .ok (.bipush 100, 2) := by decide +kernel
theorem dX4_stackRows_140 : decode cX4_stackRows 140 = .ok (.if_icmp .ge 54, 3) := by decide +kernel
theorem dX4_stackRows_143 : decode cX4_stackRows 143 = .ok (.aload_n 0, 1) := by decide +kernel
theorem dX4_stackRows_144 : decode cX4_stackRows 144 = .ok (.getfield 18, 3) := by decide +kernel
theorem dX4_stackRows_147 : decode cX4_stackRows 147 = .ok (.getfield 22, 3) := by decide +kernel
theorem dX4_stackRows_150 : decode cX4_stackRows 150 = .ok (.iload_n 3, 1) := by decide +kernel
theorem dX4_stackRows_151 : decode cX4_stackRows 151 = .ok (.invokevirtual 34, 3) := by decide +kernel
theorem dX4_stackRows_154 : decode cX4_stackRows 154 = .ok (.checkcast 38, 3) := by decide +kernel
theorem dX4_stackRows_157 : decode cX4_stackRows 157 = .ok (.getfield 68, 3) := by decide +kernel
theorem dX4_stackRows_160 : decode cX4_stackRows 160 = .ok (.iload_n 2, 1) := by decide +kernel
theorem dX4_stackRows_161 : decode cX4_stackRows 161 = .ok (.if_icmp .ne 27, 3) := by decide +kernel
theorem dX4_stackRows_164 : decode cX4_stackRows 164 = .ok (.aload_n 0, 1) := by decide +kernel
theorem dX4_stackRows_165 : decode cX4_stackRows 165 = .ok (.aload_n 0, 1) := by decide +kernel
theorem dX4_stackRows_166 : decode cX4_stackRows 166 = .ok (.getfield 18, 3) := by decide +kernel
theorem dX4_stackRows_169 : decode cX4_stackRows 169 = .ok (.getfield 22, 3) := by decide +kernel
theorem dX4_stackRows_172 : decode cX4_stackRows 172 = .ok (.iload_n 3, 1) := by decide +kernel
theorem dX4_stackRows_173 : decode cX4_stackRows 173 = .ok (.invokevirtual 34, 3) := by decide +kernel
theorem dX4_stackRows_176 : decode cX4_stackRows 176 = .ok (.checkcast 38, 3) := by decide +kernel
theorem dX4_stackRows_179 : decode cX4_stackRows 179 = .ok (.aload_n 0, 1) := by decide +kernel
theorem dX4_stackRows_180 : decode cX4_stackRows 180 = .ok (.getfield 9, 3) := by decide +kernel
theorem dX4_stackRows_183 : decode cX4_stackRows 183 = .ok (.iload_n 3, 1) := by decide +kernel
theorem dX4_stackRows_184 : decode cX4_stackRows 184 = .ok (.iaload, 1) := by decide +kernel
theorem dX4_stackRows_185 : decode cX4_stackRows 185 = .ok (.invokevirtual 77, 3) := by decide +kernel
theorem dX4_stackRows_188 : decode cX4_stackRows 188 = .ok (.iinc 3 1, 3) := by decide +kernel
theorem dX4_stackRows_191 : decode cX4_stackRows 191 = .ok (.goto (-68), 3) := by decide +kernel
theorem dX4_stackRows_194 : decode cX4_stackRows 194 = .ok (.iinc 2 1, 3) := by decide +kernel
theorem dX4_stackRows_197 : decode cX4_stackRows 197 = .ok (.goto (-86), 3) := by decide +kernel
theorem dX4_stackRows_200 : decode cX4_stackRows 200 = .ok (.return_, 1) := by decide +kernel
theorem dX6_sumUp_0 : decode cX6_sumUp 0 = .ok (.iconst 0, 1) := by decide +kernel
theorem dX6_sumUp_1 : decode cX6_sumUp 1 = .ok (.istore_n 2, 1) := by decide +kernel
theorem dX6_sumUp_2 : decode cX6_sumUp 2 = .ok (.iload_n 2, 1) := by decide +kernel
theorem dX6_sumUp_3 : decode cX6_sumUp 3 = .ok (.aload_n 0, 1) := by decide +kernel
theorem dX6_sumUp_4 : decode cX6_sumUp 4 = .ok (.getfield 44, 3) := by decide +kernel
theorem dX6_sumUp_7 : decode cX6_sumUp 7 = .ok (.if_icmp .ge 127, 3) := by decide +kernel
theorem dX6_sumUp_10 : decode cX6_sumUp 10 = .ok (.iload_n 2, 1) := by decide +kernel
theorem dX6_sumUp_11 : decode cX6_sumUp 11 = .ok (.sipush 904, 3) := by decide +kernel
theorem dX6_sumUp_14 : decode cX6_sumUp 14 = .ok (.if_icmp .ge 120, 3) := by decide +kernel
theorem dX6_sumUp_17 : decode cX6_sumUp 17 = .ok (.iconst 0, 1) := by decide +kernel
theorem dX6_sumUp_18 : decode cX6_sumUp 18 = .ok (.istore_n 3, 1) := by decide +kernel
theorem dX6_sumUp_19 : decode cX6_sumUp 19 = .ok (.iload_n 3, 1) := by decide +kernel
theorem dX6_sumUp_20 : decode cX6_sumUp 20 = .ok (.bipush 6, 2) := by decide +kernel
theorem dX6_sumUp_22 : decode cX6_sumUp 22 = .ok (.if_icmp .ge 28, 3) := by decide +kernel
theorem dX6_sumUp_25 : decode cX6_sumUp 25 = .ok (.aload_n 0, 1) := by decide +kernel
theorem dX6_sumUp_26 : decode cX6_sumUp 26 = .ok (.getfield 30, 3) := by decide +kernel
theorem dX6_sumUp_29 : decode cX6_sumUp 29 = .ok (.iload_n 2, 1) := by decide +kernel
theorem dX6_sumUp_30 : decode cX6_sumUp 30 = .ok (.bipush 6, 2) := by decide +kernel
theorem dX6_sumUp_32 : decode cX6_sumUp 32 = .ok (.imul, 1) := by decide +kernel
theorem dX6_sumUp_33 : decode cX6_sumUp 33 = .ok (.iload_n 3, 1) := by decide +kernel
theorem dX6_sumUp_34 : decode cX6_sumUp 34 = .ok (.iadd, 1) := by decide +kernel
theorem dX6_sumUp_35 : decode cX6_sumUp 35 = .ok (.aload_n 0, 1) := by decide +kernel
theorem dX6_sumUp_36 : decode cX6_sumUp 36 = .ok (.iload_n 2, 1) := by decide +kernel
theorem dX6_sumUp_37 : decode cX6_sumUp 37 = .ok (.iconst 1, 1) := by decide +kernel
theorem dX6_sumUp_38 : decode cX6_sumUp 38 = .ok (.isub, 1) := by decide +kernel
theorem dX6_sumUp_39 : decode cX6_sumUp 39 = .ok (.iload_n 3, 1) := by decide +kernel
theorem dX6_sumUp_40 : decode cX6_sumUp 40 = .ok (.invokevirtual 68, 3) := by decide +kernel
theorem dX6_sumUp_43 : decode cX6_sumUp 43 = .ok (.iastore, 1) := by decide +kernel
theorem dX6_sumUp_44 : decode cX6_sumUp 44 = .ok (.iinc 3 1, 3) := by decide +kernel
theorem dX6_sumUp_47 : decode cX6_sumUp 47 = .ok (.goto (-28), 3) := by decide +kernel
theorem dX6_sumUp_50 : decode cX6_sumUp 50 = .ok (.aload_n 0, 1) := by decide +kernel
theorem dX6_sumUp_51 : decode cX6_sumUp 51 = .ok (.iload_n 2, 1) := by decide +kernel
theorem dX6_sumUp_52 : decode cX6_sumUp 52 = .ok (.invokevirtual 71, 3) := by decide +kernel
theorem dX6_sumUp_55 : decode cX6_sumUp 55 = .ok (.sipush 904, 3) := by decide +kernel
theorem dX6_sumUp_58 : decode cX6_sumUp 58 = .ok (.invokestatic 74, 3) := by decide +kernel
theorem dX6_sumUp_61 : decode cX6_sumUp 61 = .ok (.istore_n 3, 1) := by decide +kernel
theorem dX6_sumUp_62 : decode cX6_sumUp 62 = .ok (.aload_n 0, 1) := by decide +kernel
theorem dX6_sumUp_63 : decode cX6_sumUp 63 = .ok (.iload_n 2, 1) := by decide +kernel
theorem dX6_sumUp_64 : decode cX6_sumUp 64 = .ok (.invokevirtual 58, 3) := by decide +kernel
theorem dX6_sumUp_67 : decode cX6_sumUp 67 = .ok (.istore 4, 2) := by decide +kernel
theorem dX6_sumUp_69 : decode cX6_sumUp 69 = .ok (.iload 4, 2) := by decide +kernel
theorem dX6_sumUp_71 : decode cX6_sumUp 71 = .ok (.iload_n 3, 1) := by decide +kernel
theorem dX6_sumUp_72 : decode cX6_sumUp 72 = .ok (.if_icmp .ge 56, 3) := by decide +kernel
theorem dX6_sumUp_75 : decode cX6_sumUp 75 = .ok (.aload_n 0, 1) := by decide +kernel
theorem dX6_sumUp_76 : decode cX6_sumUp 76 = .ok (.getfield 15, 3) := by decide +kernel
theorem dX6_sumUp_79 : decode cX6_sumUp 79 = .ok (.iload 4, 2) := by decide +kernel
theorem dX6_sumUp_81 : decode cX6_sumUp 81 = .ok (.iaload, 1) := by decide +kernel
theorem dX6_sumUp_82 : decode cX6_sumUp 82 = .ok (.ifCond .ne 40, 3) := by decide +kernel
theorem dX6_sumUp_85 : decode cX6_sumUp 85 = .ok (.aload_n 1, 1) := by decide +kernel
theorem dX6_sumUp_86 : decode cX6_sumUp 86 = .ok (.aload_n 0, 1) := by decide +kernel
theorem dX6_sumUp_87 : decode cX6_sumUp 87 = .ok (.getfield 9, 3) := by decide +kernel
theorem dX6_sumUp_90 : decode cX6_sumUp 90 = .ok (.iload 4, 2) := by decide +kernel
theorem dX6_sumUp_92 : decode cX6_sumUp 92 = .ok (.iaload, 1) := by decide +kernel
theorem dX6_sumUp_93 : decode cX6_sumUp 93 = .ok (.invokevirtual 77, 3) := by decide +kernel
theorem dX6_sumUp_96 : decode cX6_sumUp 96 = .ok (.ifCond .eq 26, 3) := by decide +kernel
theorem dX6_sumUp_99 : decode cX6_sumUp 99 = .ok (.aload_n 0, 1) := by decide +kernel
theorem dX6_sumUp_100 : decode cX6_sumUp 100 = .ok (.aload_n 1, 1) := by decide +kernel
theorem dX6_sumUp_101 : decode cX6_sumUp 101 = .ok (.getfield 82, 3) := by decide +kernel
theorem dX6_sumUp_104 : decode cX6_sumUp 104 = .ok (.aload_n 0, 1) := by decide +kernel
theorem dX6_sumUp_105 : decode cX6_sumUp 105 = .ok (.getfield 9, 3) := by decide +kernel
theorem dX6_sumUp_108 : decode cX6_sumUp 108 = .ok (.iload 4, 2) := by decide +kernel
theorem dX6_sumUp_110 : decode cX6_sumUp 110 = .ok (.iaload, 1) := by decide +kernel
theorem dX6_sumUp_111 : decode cX6_sumUp 111 = .ok (.invokevirtual 86, 3) := by decide +kernel
theorem dX6_sumUp_114 : decode cX6_sumUp 114 = .ok (.checkcast 92, 3) := by decide +kernel
theorem dX6_sumUp_117 : decode cX6_sumUp 117 = .ok (.iload_n 2, 1) := by decide +kernel
theorem dX6_sumUp_118 : decode cX6_sumUp 118 = .ok (.aload_n 1, 1) := by decide +kernel
theorem dX6_sumUp_119 : decode cX6_sumUp 119 = .ok (.invokevirtual 94, 3) := by decide +kernel
theorem dX6_sumUp_122 : decode cX6_sumUp 122 = .ok (.iinc 4 1, 3) := by decide +kernel
theorem dX6_sumUp_125 : decode cX6_sumUp 125 = .ok (.goto (-56), 3) := by decide +kernel
theorem dX6_sumUp_128 : decode cX6_sumUp 128 = .ok (.iinc 2 1, 3) := by decide +kernel
theorem dX6_sumUp_131 : decode cX6_sumUp 131 = .ok (.goto (-129), 3) := by decide +kernel
theorem dX6_sumUp_134 : decode cX6_sumUp 134 = .ok (.return_, 1) := by decide +kernel
theorem dX6_hasSamePage_0 : decode cX6_hasSamePage 0 = .ok (.aload_n 0, 1) := by decide +kernel
theorem dX6_hasSamePage_1 : decode cX6_hasSamePage 1 = .ok (.getfield 27, 3) := by decide +kernel
theorem dX6_hasSamePage_4 : decode cX6_hasSamePage 4 = .ok (.iload_n 1, 1) := by decide +kernel
theorem dX6_hasSamePage_5 : decode cX6_hasSamePage 5 = .ok (.iaload, 1) := by decide +kernel
theorem dX6_hasSamePage_6 : decode cX6_hasSamePage 6 = .ok (.aload_n 2, 1) := by decide +kernel
theorem dX6_hasSamePage_7 : decode cX6_hasSamePage 7 = .ok (.getfield 27, 3) := by decide +kernel
theorem dX6_hasSamePage_10 : decode cX6_hasSamePage 10 = .ok (.iload_n 1, 1) := by decide +kernel
theorem dX6_hasSamePage_11 : decode cX6_hasSamePage 11 = .ok (.iaload, 1) := by decide +kernel
theorem dX6_hasSamePage_12 : decode cX6_hasSamePage 12 = .ok (.if_icmp .ne 14, 3) := by decide +kernel
theorem dX6_hasSamePage_15 : decode cX6_hasSamePage 15 = .ok (.aload_n 0, 1) := by decide +kernel
theorem dX6_hasSamePage_16 : decode cX6_hasSamePage 16 = .ok (.getfield 36, 3) := by decide +kernel
theorem dX6_hasSamePage_19 : decode cX6_hasSamePage 19 = .ok (.aload_n 2, 1) := by decide +kernel
theorem dX6_hasSamePage_20 : decode cX6_hasSamePage 20 = .ok (.getfield 36, 3) := by decide +kernel
theorem dX6_hasSamePage_23 : decode cX6_hasSamePage 23 = .ok (.if_icmp .eq 5, 3) := by decide +kernel
theorem dX6_hasSamePage_26 : decode cX6_hasSamePage 26 = .ok (.iconst 0, 1) := by decide +kernel
theorem dX6_hasSamePage_27 : decode cX6_hasSamePage 27 = .ok (.ireturn, 1) := by decide +kernel
theorem dX6_hasSamePage_28 : decode cX6_hasSamePage 28 = .ok (.iconst 0, 1) := by decide +kernel
theorem dX6_hasSamePage_29 : decode cX6_hasSamePage 29 = .ok (.istore_n 3, 1) := by decide +kernel
theorem dX6_hasSamePage_30 : decode cX6_hasSamePage 30 = .ok (.iload_n 3, 1) := by decide +kernel
theorem dX6_hasSamePage_31 : decode cX6_hasSamePage 31 = .ok (.bipush 6, 2) := by decide +kernel
theorem dX6_hasSamePage_33 : decode cX6_hasSamePage 33 = .ok (.if_icmp .ge 69, 3) := by decide +kernel
theorem dX6_hasSamePage_36 : decode cX6_hasSamePage 36 = .ok (.aload_n 0, 1) := by decide +kernel
theorem dX6_hasSamePage_37 : decode cX6_hasSamePage 37 = .ok (.iload_n 1, 1) := by decide +kernel
theorem dX6_hasSamePage_38 : decode cX6_hasSamePage 38 = .ok (.iload_n 3, 1) := by decide +kernel
theorem dX6_hasSamePage_39 : decode cX6_hasSamePage 39 = .ok (.invokevirtual 68, 3) := by decide +kernel
theorem dX6_hasSamePage_42 : decode cX6_hasSamePage 42 = .ok (.aload_n 2, 1) := by decide +kernel
theorem dX6_hasSamePage_43 : decode cX6_hasSamePage 43 = .ok (.iload_n 1, 1) := by decide +kernel
theorem dX6_hasSamePage_44 : decode cX6_hasSamePage 44 = .ok (.iload_n 3, 1) := by decide +kernel
theorem dX6_hasSamePage_45 : decode cX6_hasSamePage 45 = .ok (.invokevirtual 68, 3) := by decide +kernel
theorem dX6_hasSamePage_48 : decode cX6_hasSamePage 48 = .ok (.if_icmp .ne 26, 3) := by decide +kernel
theorem dX6_hasSamePage_51 : decode cX6_hasSamePage 51 = .ok (.aload_n 0, 1) := by decide +kernel
theorem dX6_hasSamePage_52 : decode cX6_hasSamePage 52 = .ok (.iload_n 1, 1) := by decide +kernel
theorem dX6_hasSamePage_53 : decode cX6_hasSamePage 53 = .ok (.iconst 1, 1) := by decide +kernel
theorem dX6_hasSamePage_54 : decode cX6_hasSamePage 54 = .ok (.isub, 1) := by decide +kernel
theorem dX6_hasSamePage_55 : decode cX6_hasSamePage 55 = .ok (.iload_n 3, 1) := by decide +kernel
theorem dX6_hasSamePage_56 : decode cX6_hasSamePage 56 = .ok (.invokevirtual 68, 3) := by decide +kernel
theorem dX6_hasSamePage_59 : decode cX6_hasSamePage 59 = .ok (.aload_n 2, 1) := by decide +kernel
theorem dX6_hasSamePage_60 : decode cX6_hasSamePage 60 = .ok (.iload_n 1, 1) := by decide +kernel
theorem dX6_hasSamePage_61 : decode cX6_hasSamePage 61 = .ok (.iconst 1, 1) := by decide +kernel
theorem dX6_hasSamePage_62 : decode cX6_hasSamePage 62 = .ok (.isub, 1) := by decide +kernel
theorem dX6_hasSamePage_63 : decode cX6_hasSamePage 63 = .ok (.iload_n 3, 1) := by decide +kernel
theorem dX6_hasSamePage_64 : decode cX6_hasSamePage 64 = .ok (.invokevirtual 68, 3) := by decide +kernel
theorem dX6_hasSamePage_67 : decode cX6_hasSamePage 67 = .ok (.if_icmp .ne 7, 3) := by decide +kernel
theorem dX6_hasSamePage_70 : decode cX6_hasSamePage 70 = .ok (.iconst 1, 1) := by decide +kernel
theorem dX6_hasSamePage_71 : decode cX6_hasSamePage 71 = .ok (.goto 4, 3) := by decide +kernel
theorem dX6_hasSamePage_74 : decode cX6_hasSamePage 74 = .ok (.iconst 0, 1) := by decide +kernel
theorem dX6_hasSamePage_75 : decode cX6_hasSamePage 75 = .ok (.istore 4, 2) := by decide +kernel
theorem dX6_hasSamePage_77 : decode cX6_hasSamePage 77 = .ok (.aload_n 0, 1) := by decide +kernel
theorem dX6_hasSamePage_78 : decode cX6_hasSamePage 78 = .ok (.getfield 36, 3) := by decide +kernel
theorem dX6_hasSamePage_81 : decode cX6_hasSamePage 81 = .ok (.iload_n 3, 1) := by decide +kernel
theorem dX6_hasSamePage_82 : decode cX6_hasSamePage 82 = .ok (.ishr, 1) := by decide +kernel
theorem dX6_hasSamePage_83 : decode cX6_hasSamePage 83 = .ok (.iconst 1, 1) := by decide +kernel
theorem dX6_hasSamePage_84 : decode cX6_hasSamePage 84 = .ok (.iand, 1) := by decide +kernel
theorem dX6_hasSamePage_85 : decode cX6_hasSamePage 85 = .ok (.iconst 1, 1) := by decide +kernel
theorem dX6_hasSamePage_86 : decode cX6_hasSamePage 86 = .ok (.if_icmp .ne 10, 3) := by decide +kernel
theorem dX6_hasSamePage_89 : decode cX6_hasSamePage 89 = .ok (.iload 4, 2) := by decide +kernel
theorem dX6_hasSamePage_91 : decode cX6_hasSamePage 91 = .ok (.ifCond .ne 5, 3) := by decide +kernel
theorem dX6_hasSamePage_94 : decode cX6_hasSamePage 94 = .ok (.iconst 0, 1) := by decide +kernel
theorem dX6_hasSamePage_95 : decode cX6_hasSamePage 95 = .ok (.ireturn, 1) := by decide +kernel
theorem dX6_hasSamePage_96 : decode cX6_hasSamePage 96 = .ok (.iinc 3 1, 3) := by decide +kernel
theorem dX6_hasSamePage_99 : decode cX6_hasSamePage 99 = .ok (.goto (-69), 3) := by decide +kernel
theorem dX6_hasSamePage_102 : decode cX6_hasSamePage 102 = .ok (.aload_n 0, 1) := by decide +kernel
theorem dX6_hasSamePage_103 : decode cX6_hasSamePage 103 = .ok (.iload_n 1, 1) := by decide +kernel
theorem dX6_hasSamePage_104 : decode cX6_hasSamePage 104 = .ok (.aload_n 2, 1) := by decide +kernel
theorem dX6_hasSamePage_105 : decode cX6_hasSamePage 105 = .ok (.invokevirtual 106, 3) := by decide +kernel
theorem dX6_hasSamePage_108 : decode cX6_hasSamePage 108 = .ok (.ireturn, 1) := by decide +kernel
theorem dX8_clear_0 : decode cX8_clear 0 = .ok (.aload_n 0, 1) := by decide +kernel
theorem dX8_clear_1 : decode cX8_clear 1 = .ok (.getfield 9, 3) := by decide +kernel
theorem dX8_clear_4 : decode cX8_clear 4 = .ok (.iconst 0, 1) := by decide +kernel
theorem dX8_clear_5 : decode cX8_clear 5 = .ok (.invokestatic 69, 3) := by decide +kernel
theorem dX8_clear_8 : decode cX8_clear 8 = .ok (.aload_n 0, 1) := by decide +kernel
theorem dX8_clear_9 : decode cX8_clear 9 = .ok (.getfield 15, 3) := by decide +kernel
theorem dX8_clear_12 : decode cX8_clear 12 = .ok (.iconst 0, 1) := by decide +kernel
theorem dX8_clear_13 : decode cX8_clear 13 = .ok (.invokestatic 69, 3) := by decide +kernel
theorem dX8_clear_16 : decode cX8_clear 16 = .ok (.aload_n 0, 1) := by decide +kernel
theorem dX8_clear_17 : decode cX8_clear 17 = .ok (.getfield 18, 3) := by decide +kernel
theorem dX8_clear_20 : decode cX8_clear 20 = .ok (.iconst 0, 1) := by decide +kernel
theorem dX8_clear_21 : decode cX8_clear 21 = .ok (.invokestatic 69, 3) := by decide +kernel
theorem dX8_clear_24 : decode cX8_clear 24 = .ok (.aload_n 0, 1) := by decide +kernel
theorem dX8_clear_25 : decode cX8_clear 25 = .ok (.getfield 21, 3) := by decide +kernel
theorem dX8_clear_28 : decode cX8_clear 28 = .ok (.iconst 0, 1) := by decide +kernel
theorem dX8_clear_29 : decode cX8_clear 29 = .ok (.invokestatic 69, 3) := by decide +kernel
theorem dX8_clear_32 : decode cX8_clear 32 = .ok (.aload_n 0, 1) := by decide +kernel
theorem dX8_clear_33 : decode cX8_clear 33 = .ok (.getfield 24, 3) := by decide +kernel
theorem dX8_clear_36 : decode cX8_clear 36 = .ok (.iconst 0, 1) := by decide +kernel
theorem dX8_clear_37 : decode cX8_clear 37 = .ok (.invokestatic 69, 3) := by decide +kernel
theorem dX8_clear_40 : decode cX8_clear 40 = .ok (.aload_n 0, 1) := by decide +kernel
theorem dX8_clear_41 : decode cX8_clear 41 = .ok (.getfield 27, 3) := by decide +kernel
theorem dX8_clear_44 : decode cX8_clear 44 = .ok (.iconst 0, 1) := by decide +kernel
theorem dX8_clear_45 : decode cX8_clear 45 = .ok (.invokestatic 69, 3) := by decide +kernel
theorem dX8_clear_48 : decode cX8_clear 48 = .ok (.aload_n 0, 1) := by decide +kernel
theorem dX8_clear_49 : decode cX8_clear 49 = .ok (.getfield 30, 3) := by decide +kernel
theorem dX8_clear_52 : decode cX8_clear 52 = .ok (.iconst 0, 1) := by decide +kernel
theorem dX8_clear_53 : decode cX8_clear 53 = .ok (.invokestatic 69, 3) := by decide +kernel
theorem dX8_clear_56 : decode cX8_clear 56 = .ok (.return_, 1) := by decide +kernel
theorem dX8_measureSingleColumns_0 : decode cX8_measureSingleColumns 0 = .ok (.iconst 0, 1) := by decide +kernel
theorem dX8_measureSingleColumns_1 : decode cX8_measureSingleColumns 1 = .ok (.istore_n 1, 1) := by decide +kernel
theorem dX8_measureSingleColumns_2 : decode cX8_measureSingleColumns 2 = .ok (.iload_n 1, 1) := by decide +kernel
theorem dX8_measureSingleColumns_3 : decode cX8_measureSingleColumns 3 = .ok (.bipush 6, 2) := by decide +kernel
theorem dX8_measureSingleColumns_5 : decode cX8_measureSingleColumns 5 = .ok (.if_icmp .ge 47, 3) := by decide +kernel
theorem dX8_measureSingleColumns_8 : decode cX8_measureSingleColumns 8 = .ok (.aload_n 0, 1) := by decide +kernel
theorem dX8_measureSingleColumns_9 : decode cX8_measureSingleColumns 9 = .ok (.getfield 9, 3) := by decide +kernel
theorem dX8_measureSingleColumns_12 : decode cX8_measureSingleColumns 12 = .ok (.iload_n 1, 1) := by decide +kernel
theorem dX8_measureSingleColumns_13 : decode cX8_measureSingleColumns 13 = .ok (.aload_n 0, 1) := by decide +kernel
theorem dX8_measureSingleColumns_14 : decode cX8_measureSingleColumns 14 = .ok (.getfield 21, 3) := by decide +kernel
theorem dX8_measureSingleColumns_17 : decode cX8_measureSingleColumns 17 = .ok (.iload_n 1, 1) := by decide +kernel
theorem dX8_measureSingleColumns_18 : decode cX8_measureSingleColumns 18 = .ok (.iaload, 1) := by decide +kernel
theorem dX8_measureSingleColumns_19 : decode cX8_measureSingleColumns 19 = .ok (.aload_n 0, 1) := by decide +kernel
theorem dX8_measureSingleColumns_20 : decode cX8_measureSingleColumns 20 = .ok (.getfield 24, 3) := by decide +kernel
theorem dX8_measureSingleColumns_23 : decode cX8_measureSingleColumns 23 = .ok (.iload_n 1, 1) := by decide +kernel
theorem dX8_measureSingleColumns_24 : decode cX8_measureSingleColumns 24 = .ok (.iaload, 1) := by decide +kernel
theorem dX8_measureSingleColumns_25 : decode cX8_measureSingleColumns 25 = .ok (.iadd, 1) := by decide +kernel
theorem dX8_measureSingleColumns_26 : decode cX8_measureSingleColumns 26 = .ok (.iastore, 1) := by decide +kernel
theorem dX8_measureSingleColumns_27 : decode cX8_measureSingleColumns 27 = .ok (.aload_n 0, 1) := by decide +kernel
theorem dX8_measureSingleColumns_28 : decode cX8_measureSingleColumns 28 = .ok (.getfield 15, 3) := by decide +kernel
theorem dX8_measureSingleColumns_31 : decode cX8_measureSingleColumns 31 = .ok (.iload_n 1, 1) := by decide +kernel
theorem dX8_measureSingleColumns_32 : decode cX8_measureSingleColumns 32 = .ok (.aload_n 0, 1) := by decide +kernel
theorem dX8_measureSingleColumns_33 : decode cX8_measureSingleColumns 33 = .ok (.getfield 21, 3) := by decide +kernel
theorem dX8_measureSingleColumns_36 : decode cX8_measureSingleColumns 36 = .ok (.iload_n 1, 1) := by decide +kernel
theorem dX8_measureSingleColumns_37 : decode cX8_measureSingleColumns 37 = .ok (.iaload, 1) := by decide +kernel
theorem dX8_measureSingleColumns_38 : decode cX8_measureSingleColumns 38 = .ok (.aload_n 0, 1) := by decide +kernel
theorem dX8_measureSingleColumns_39 : decode cX8_measureSingleColumns 39 = .ok (.getfield 24, 3) := by decide +kernel
theorem dX8_measureSingleColumns_42 : decode cX8_measureSingleColumns 42 = .ok (.iload_n 1, 1) := by decide +kernel
theorem dX8_measureSingleColumns_43 : decode cX8_measureSingleColumns 43 = .ok (.iaload, 1) := by decide +kernel
theorem dX8_measureSingleColumns_44 : decode cX8_measureSingleColumns 44 = .ok (.iadd, 1) := by decide +kernel
theorem dX8_measureSingleColumns_45 : decode cX8_measureSingleColumns 45 = .ok (.iastore, 1) := by decide +kernel
theorem dX8_measureSingleColumns_46 : decode cX8_measureSingleColumns 46 = .ok (.iinc 1 1, 3) := by decide +kernel
theorem dX8_measureSingleColumns_49 : decode cX8_measureSingleColumns 49 = .ok (.goto (-47), 3) := by decide +kernel
theorem dX8_measureSingleColumns_52 : decode cX8_measureSingleColumns 52 = .ok (.iconst 0, 1) := by decide +kernel
theorem dX8_measureSingleColumns_53 : decode cX8_measureSingleColumns 53 = .ok (.istore_n 1, 1) := by decide +kernel
theorem dX8_measureSingleColumns_54 : decode cX8_measureSingleColumns 54 = .ok (.iload_n 1, 1) := by decide +kernel
theorem dX8_measureSingleColumns_55 : decode cX8_measureSingleColumns 55 = .ok (.aload_n 0, 1) := by decide +kernel
theorem dX8_measureSingleColumns_56 : decode cX8_measureSingleColumns 56 = .ok (.getfield 33, 3) := by decide +kernel
theorem dX8_measureSingleColumns_59 : decode cX8_measureSingleColumns 59 = .ok (.getfield 75, 3) := by decide +kernel
theorem dX8_measureSingleColumns_62 : decode cX8_measureSingleColumns 62 = .ok (.invokevirtual 79, 3) := by decide +kernel
theorem dX8_measureSingleColumns_65 : decode cX8_measureSingleColumns 65 = .ok (.if_icmp .ge 90, 3) := by decide +kernel
theorem dX8_measureSingleColumns_68 : decode cX8_measureSingleColumns 68 = .ok (.aload_n 0, 1) := by decide +kernel
theorem dX8_measureSingleColumns_69 : decode cX8_measureSingleColumns 69 = .ok (.getfield 33, 3) := by decide +kernel
theorem dX8_measureSingleColumns_72 : decode cX8_measureSingleColumns 72 = .ok (.getfield 75, 3) := by decide +kernel
theorem dX8_measureSingleColumns_75 : decode cX8_measureSingleColumns 75 = .ok (.iload_n 1, 1) := by decide +kernel
theorem dX8_measureSingleColumns_76 : decode cX8_measureSingleColumns 76 = .ok (.invokevirtual 84, 3) := by decide +kernel
theorem dX8_measureSingleColumns_79 : decode cX8_measureSingleColumns 79 = .ok (.checkcast 88, 3) := by decide +kernel
theorem dX8_measureSingleColumns_82 : decode cX8_measureSingleColumns 82 = .ok (.astore_n 2, 1) := by decide +kernel
theorem dX8_measureSingleColumns_83 : decode cX8_measureSingleColumns 83 = .ok (.aload_n 2, 1) := by decide +kernel
theorem dX8_measureSingleColumns_84 : decode cX8_measureSingleColumns 84 = .ok (.getfield 124, 3) := by decide +kernel
theorem dX8_measureSingleColumns_87 : decode cX8_measureSingleColumns 87 = .ok (.iconst 1, 1) := by decide +kernel
theorem dX8_measureSingleColumns_88 : decode cX8_measureSingleColumns 88 = .ok (.if_icmp .ne 11, 3) := by decide +kernel
theorem dX8_measureSingleColumns_91 : decode cX8_measureSingleColumns 91 = .ok (.aload_n 0, 1) := by decide +kernel
theorem dX8_measureSingleColumns_92 : decode cX8_measureSingleColumns 92 = .ok (.aload_n 2, 1) := by decide +kernel
theorem dX8_measureSingleColumns_93 : decode cX8_measureSingleColumns 93 = .ok (.invokevirtual 127, 3) := by decide +kernel
theorem dX8_measureSingleColumns_96 : decode cX8_measureSingleColumns 96 = .ok (.goto 4, 3) := by decide +kernel
theorem dX8_measureSingleColumns_99 : decode cX8_measureSingleColumns 99 = .ok (.iconst (-1), 1) := by decide +kernel
theorem dX8_measureSingleColumns_100 : decode cX8_measureSingleColumns 100 = .ok (.istore_n 3, 1) := by decide +kernel
theorem dX8_measureSingleColumns_101 : decode cX8_measureSingleColumns 101 = .ok (.iload_n 3, 1) := by decide +kernel
theorem dX8_measureSingleColumns_102 : decode cX8_measureSingleColumns 102 = .ok (.ifCond .lt 47, 3) := by decide +kernel
theorem dX8_measureSingleColumns_105 : decode cX8_measureSingleColumns 105 = .ok (.iload_n 3, 1) := by decide +kernel
theorem dX8_measureSingleColumns_106 : decode cX8_measureSingleColumns 106 = .ok (.bipush 6, 2) := by decide +kernel
theorem dX8_measureSingleColumns_108 : decode cX8_measureSingleColumns 108 = .ok (.if_icmp .ge 41, 3) := by decide +kernel
theorem dX8_measureSingleColumns_111 : decode cX8_measureSingleColumns 111 = .ok (.aload_n 0, 1) := by decide +kernel
theorem dX8_measureSingleColumns_112 : decode cX8_measureSingleColumns 112 = .ok (.getfield 9, 3) := by decide +kernel
theorem dX8_measureSingleColumns_115 : decode cX8_measureSingleColumns 115 = .ok (.iload_n 3, 1) := by decide +kernel
theorem dX8_measureSingleColumns_116 : decode cX8_measureSingleColumns 116 = .ok (.aload_n 0, 1) := by decide +kernel
theorem dX8_measureSingleColumns_117 : decode cX8_measureSingleColumns 117 = .ok (.getfield 9, 3) := by decide +kernel
theorem dX8_measureSingleColumns_120 : decode cX8_measureSingleColumns 120 = .ok (.iload_n 3, 1) := by decide +kernel
theorem dX8_measureSingleColumns_121 : decode cX8_measureSingleColumns 121 = .ok (.iaload, 1) := by decide +kernel
theorem dX8_measureSingleColumns_122 : decode cX8_measureSingleColumns 122 = .ok (.aload_n 2, 1) := by decide +kernel
theorem dX8_measureSingleColumns_123 : decode cX8_measureSingleColumns 123 = .ok (.invokevirtual 131, 3) := by decide +kernel
theorem dX8_measureSingleColumns_126 : decode cX8_measureSingleColumns 126 = .ok (.invokestatic 53, 3) := by decide +kernel
theorem dX8_measureSingleColumns_129 : decode cX8_measureSingleColumns 129 = .ok (.iastore, 1) := by decide +kernel
theorem dX8_measureSingleColumns_130 : decode cX8_measureSingleColumns 130 = .ok (.aload_n 0, 1) := by decide +kernel
theorem dX8_measureSingleColumns_131 : decode cX8_measureSingleColumns 131 = .ok (.getfield 15, 3) := by decide +kernel
theorem dX8_measureSingleColumns_134 : decode cX8_measureSingleColumns 134 = .ok (.iload_n 3, 1) := by decide +kernel
theorem dX8_measureSingleColumns_135 : decode cX8_measureSingleColumns 135 = .ok (.aload_n 0, 1) := by decide +kernel
theorem dX8_measureSingleColumns_136 : decode cX8_measureSingleColumns 136 = .ok (.getfield 15, 3) := by decide +kernel
theorem dX8_measureSingleColumns_139 : decode cX8_measureSingleColumns 139 = .ok (.iload_n 3, 1) := by decide +kernel
theorem dX8_measureSingleColumns_140 : decode cX8_measureSingleColumns 140 = .ok (.iaload, 1) := by decide +kernel
theorem dX8_measureSingleColumns_141 : decode cX8_measureSingleColumns 141 = .ok (.aload_n 2, 1) := by decide +kernel
theorem dX8_measureSingleColumns_142 : decode cX8_measureSingleColumns 142 = .ok (.invokevirtual 134, 3) := by decide +kernel
theorem dX8_measureSingleColumns_145 : decode cX8_measureSingleColumns 145 = .ok (.invokestatic 53, 3) := by decide +kernel
theorem dX8_measureSingleColumns_148 : decode cX8_measureSingleColumns 148 = .ok (.iastore, 1) := by decide +kernel
theorem dX8_measureSingleColumns_149 : decode cX8_measureSingleColumns 149 = .ok (.iinc 1 1, 3) := by decide +kernel
theorem dX8_measureSingleColumns_152 : decode cX8_measureSingleColumns 152 = .ok (.goto (-98), 3) := by decide +kernel
theorem dX8_measureSingleColumns_155 : decode cX8_measureSingleColumns 155 = .ok (.return_, 1) := by decide +kernel
theorem dX8_spreadOverColumns_0 : decode cX8_spreadOverColumns 0 = .ok (.iconst 2, 1) := by decide +kernel
theorem dX8_spreadOverColumns_1 : decode cX8_spreadOverColumns 1 = .ok (.istore_n 3, 1) := by decide +kernel
theorem dX8_spreadOverColumns_2 : decode cX8_spreadOverColumns 2 = .ok (.iload_n 3, 1) := by decide +kernel
theorem dX8_spreadOverColumns_3 : decode cX8_spreadOverColumns 3 = .ok (.bipush 6, 2) := by decide +kernel
theorem dX8_spreadOverColumns_5 : decode cX8_spreadOverColumns 5 = .ok (.if_icmp .gt 116, 3) := by decide +kernel
theorem dX8_spreadOverColumns_8 : decode cX8_spreadOverColumns 8 = .ok (.iconst 0, 1) := by decide +kernel
theorem dX8_spreadOverColumns_9 : decode cX8_spreadOverColumns 9 = .ok (.istore 4, 2) := by decide +kernel
theorem dX8_spreadOverColumns_11 : decode cX8_spreadOverColumns 11 = .ok (.iload 4, 2) := by decide +kernel
theorem dX8_spreadOverColumns_13 : decode cX8_spreadOverColumns 13 = .ok (.aload_n 0, 1) := by decide +kernel
theorem dX8_spreadOverColumns_14 : decode cX8_spreadOverColumns 14 = .ok (.getfield 33, 3) := by decide +kernel
theorem dX8_spreadOverColumns_17 : decode cX8_spreadOverColumns 17 = .ok (.getfield 75, 3) := by decide +kernel
theorem dX8_spreadOverColumns_20 : decode cX8_spreadOverColumns 20 = .ok (.invokevirtual 79, 3) := by decide +kernel
theorem dX8_spreadOverColumns_23 : decode cX8_spreadOverColumns 23 = .ok (.if_icmp .ge 92, 3) := by decide +kernel
theorem dX8_spreadOverColumns_26 : decode cX8_spreadOverColumns 26 = .ok (.aload_n 0, 1) := by decide +kernel
theorem dX8_spreadOverColumns_27 : decode cX8_spreadOverColumns 27 = .ok (.getfield 33, 3) := by decide +kernel
theorem dX8_spreadOverColumns_30 : decode cX8_spreadOverColumns 30 = .ok (.getfield 75, 3) := by decide +kernel
theorem dX8_spreadOverColumns_33 : decode cX8_spreadOverColumns 33 = .ok (.iload 4, 2) := by decide +kernel
theorem dX8_spreadOverColumns_35 : decode cX8_spreadOverColumns 35 = .ok (.invokevirtual 84, 3) := by decide +kernel
theorem dX8_spreadOverColumns_38 : decode cX8_spreadOverColumns 38 = .ok (.checkcast 88, 3) := by decide +kernel
theorem dX8_spreadOverColumns_41 : decode cX8_spreadOverColumns 41 = .ok (.astore 5, 2) := by decide +kernel
theorem dX8_spreadOverColumns_43 : decode cX8_spreadOverColumns 43 = .ok (.aload 5, 2) := by decide +kernel
theorem dX8_spreadOverColumns_45 : decode cX8_spreadOverColumns 45 = .ok (.getfield 124, 3) := by decide +kernel
theorem dX8_spreadOverColumns_48 : decode cX8_spreadOverColumns 48 = .ok (.iload_n 3, 1) := by decide +kernel
theorem dX8_spreadOverColumns_49 : decode cX8_spreadOverColumns 49 = .ok (.if_icmp .ne 60, 3) := by decide +kernel
theorem dX8_spreadOverColumns_52 : decode cX8_spreadOverColumns 52 = .ok (.iload_n 2, 1) := by decide +kernel
theorem dX8_spreadOverColumns_53 : decode cX8_spreadOverColumns 53 = .ok (.ifCond .eq 11, 3) := by decide +kernel
theorem dX8_spreadOverColumns_56 : decode cX8_spreadOverColumns 56 = .ok (.aload 5, 2) := by decide +kernel
theorem dX8_spreadOverColumns_58 : decode cX8_spreadOverColumns 58 = .ok (.invokevirtual 134, 3) := by decide +kernel
theorem dX8_spreadOverColumns_61 : decode cX8_spreadOverColumns 61 = .ok (.goto 8, 3) := by decide +kernel
theorem dX8_spreadOverColumns_64 : decode cX8_spreadOverColumns 64 = .ok (.aload 5, 2) := by decide +kernel
theorem dX8_spreadOverColumns_66 : decode cX8_spreadOverColumns 66 = .ok (.invokevirtual 131, 3) := by decide +kernel
theorem dX8_spreadOverColumns_69 : decode cX8_spreadOverColumns 69 = .ok (.istore 6, 2) := by decide +kernel
theorem dX8_spreadOverColumns_71 : decode cX8_spreadOverColumns 71 = .ok (.iload 6, 2) := by decide +kernel
theorem dX8_spreadOverColumns_73 : decode cX8_spreadOverColumns 73 = .ok (.aload_n 0, 1) := by decide +kernel
theorem dX8_spreadOverColumns_74 : decode cX8_spreadOverColumns 74 = .ok (.getfield 33, 3) := by decide +kernel
theorem dX8_spreadOverColumns_77 : decode cX8_spreadOverColumns 77 = .ok (.aload 5, 2) := by decide +kernel
theorem dX8_spreadOverColumns_79 : decode cX8_spreadOverColumns 79 = .ok (.aload_n 1, 1) := by decide +kernel
theorem dX8_spreadOverColumns_80 : decode cX8_spreadOverColumns 80 = .ok (.invokevirtual 137, 3) := by decide +kernel
theorem dX8_spreadOverColumns_83 : decode cX8_spreadOverColumns 83 = .ok (.isub, 1) := by decide +kernel
theorem dX8_spreadOverColumns_84 : decode cX8_spreadOverColumns 84 = .ok (.istore 7, 2) := by decide +kernel
theorem dX8_spreadOverColumns_86 : decode cX8_spreadOverColumns 86 = .ok (.iconst 0, 1) := by decide +kernel
theorem dX8_spreadOverColumns_87 : decode cX8_spreadOverColumns 87 = .ok (.istore 8, 2) := by decide +kernel
theorem dX8_spreadOverColumns_89 : decode cX8_spreadOverColumns 89 = .ok (.iload 8, 2) := by decide +kernel
theorem dX8_spreadOverColumns_91 : decode cX8_spreadOverColumns 91 = .ok (.iload 7, 2) := by decide +kernel
theorem dX8_spreadOverColumns_93 : decode cX8_spreadOverColumns 93 = .ok (.if_icmp .ge 16, 3) := by decide +kernel
theorem dX8_spreadOverColumns_96 : decode cX8_spreadOverColumns 96 = .ok (.aload_n 0, 1) := by decide +kernel
theorem dX8_spreadOverColumns_97 : decode cX8_spreadOverColumns 97 = .ok (.aload 5, 2) := by decide +kernel
theorem dX8_spreadOverColumns_99 : decode cX8_spreadOverColumns 99 = .ok (.aload_n 1, 1) := by decide +kernel
theorem dX8_spreadOverColumns_100 : decode cX8_spreadOverColumns 100 = .ok (.invokevirtual 141, 3) := by decide +kernel
theorem dX8_spreadOverColumns_103 : decode cX8_spreadOverColumns 103 = .ok (.iinc 8 1, 3) := by decide +kernel
theorem dX8_spreadOverColumns_106 : decode cX8_spreadOverColumns 106 = .ok (.goto (-17), 3) := by decide +kernel
theorem dX8_spreadOverColumns_109 : decode cX8_spreadOverColumns 109 = .ok (.iinc 4 1, 3) := by decide +kernel
theorem dX8_spreadOverColumns_112 : decode cX8_spreadOverColumns 112 = .ok (.goto (-101), 3) := by decide +kernel
theorem dX8_spreadOverColumns_115 : decode cX8_spreadOverColumns 115 = .ok (.iinc 3 1, 3) := by decide +kernel
theorem dX8_spreadOverColumns_118 : decode cX8_spreadOverColumns 118 = .ok (.goto (-116), 3) := by decide +kernel
theorem dX8_spreadOverColumns_121 : decode cX8_spreadOverColumns 121 = .ok (.return_, 1) := by decide +kernel
theorem dX8_shareOut_0 : decode cX8_shareOut 0 = .ok (.iload_n 1, 1) := by decide +kernel
theorem dX8_shareOut_1 : decode cX8_shareOut 1 = .ok (.istore_n 2, 1) := by decide +kernel
theorem dX8_shareOut_2 : decode cX8_shareOut 2 = .ok (.iconst 0, 1) := by decide +kernel
theorem dX8_shareOut_3 : decode cX8_shareOut 3 = .ok (.istore_n 3, 1) := by decide +kernel
theorem dX8_shareOut_4 : decode cX8_shareOut 4 = .ok (.iconst 0, 1) := by decide +kernel
theorem dX8_shareOut_5 : decode cX8_shareOut 5 = .ok (.istore 4, 2) := by decide +kernel
theorem dX8_shareOut_7 : decode cX8_shareOut 7 = .ok (.iload 4, 2) := by decide +kernel
theorem dX8_shareOut_9 : decode cX8_shareOut 9 = .ok (.aload_n 0, 1) := by decide +kernel
theorem dX8_shareOut_10 : decode cX8_shareOut 10 = .ok (.getfield 33, 3) := by decide +kernel
theorem dX8_shareOut_13 : decode cX8_shareOut 13 = .ok (.getfield 151, 3) := by decide +kernel
theorem dX8_shareOut_16 : decode cX8_shareOut 16 = .ok (.invokevirtual 79, 3) := by decide +kernel
theorem dX8_shareOut_19 : decode cX8_shareOut 19 = .ok (.if_icmp .ge 108, 3) := by decide +kernel
theorem dX8_shareOut_22 : decode cX8_shareOut 22 = .ok (.iload 4, 2) := by decide +kernel
theorem dX8_shareOut_24 : decode cX8_shareOut 24 = .ok (.bipush 6, 2) := by decide +kernel
theorem dX8_shareOut_26 : decode cX8_shareOut 26 = .ok (.if_icmp .ge 101, 3) := by decide +kernel
theorem dX8_shareOut_29 : decode cX8_shareOut 29 = .ok (.aload_n 0, 1) := by decide +kernel
theorem dX8_shareOut_30 : decode cX8_shareOut 30 = .ok (.getfield 33, 3) := by decide +kernel
theorem dX8_shareOut_33 : decode cX8_shareOut 33 = .ok (.iload 4, 2) := by decide +kernel
theorem dX8_shareOut_35 : decode cX8_shareOut 35 = .ok (.invokevirtual 148, 3) := by decide +kernel
theorem dX8_shareOut_38 : decode cX8_shareOut 38 = .ok (.ifCond .eq 83, 3) := by decide +kernel
theorem dX8_shareOut_41 : decode cX8_shareOut 41 = .ok (.aload_n 0, 1) := by decide +kernel
theorem dX8_shareOut_42 : decode cX8_shareOut 42 = .ok (.getfield 18, 3) := by decide +kernel
theorem dX8_shareOut_45 : decode cX8_shareOut 45 = .ok (.iload 4, 2) := by decide +kernel
theorem dX8_shareOut_47 : decode cX8_shareOut 47 = .ok (.aload_n 0, 1) := by decide +kernel
theorem dX8_shareOut_48 : decode cX8_shareOut 48 = .ok (.getfield 9, 3) := by decide +kernel
theorem dX8_shareOut_51 : decode cX8_shareOut 51 = .ok (.iload 4, 2) := by decide +kernel
theorem dX8_shareOut_53 : decode cX8_shareOut 53 = .ok (.iaload, 1) := by decide +kernel
theorem dX8_shareOut_54 : decode cX8_shareOut 54 = .ok (.aload_n 0, 1) := by decide +kernel
theorem dX8_shareOut_55 : decode cX8_shareOut 55 = .ok (.getfield 33, 3) := by decide +kernel
theorem dX8_shareOut_58 : decode cX8_shareOut 58 = .ok (.getfield 151, 3) := by decide +kernel
theorem dX8_shareOut_61 : decode cX8_shareOut 61 = .ok (.iload 4, 2) := by decide +kernel
theorem dX8_shareOut_63 : decode cX8_shareOut 63 = .ok (.invokevirtual 84, 3) := by decide +kernel
theorem dX8_shareOut_66 : decode cX8_shareOut 66 = .ok (.checkcast 154, 3) := by decide +kernel
theorem dX8_shareOut_69 : decode cX8_shareOut 69 = .ok (.iload_n 1, 1) := by decide +kernel
theorem dX8_shareOut_70 : decode cX8_shareOut 70 = .ok (.invokestatic 159, 3) := by decide +kernel
theorem dX8_shareOut_73 : decode cX8_shareOut 73 = .ok (.invokestatic 53, 3) := by decide +kernel
theorem dX8_shareOut_76 : decode cX8_shareOut 76 = .ok (.iastore, 1) := by decide +kernel
theorem dX8_shareOut_77 : decode cX8_shareOut 77 = .ok (.iload_n 2, 1) := by decide +kernel
theorem dX8_shareOut_78 : decode cX8_shareOut 78 = .ok (.aload_n 0, 1) := by decide +kernel
theorem dX8_shareOut_79 : decode cX8_shareOut 79 = .ok (.getfield 18, 3) := by decide +kernel
theorem dX8_shareOut_82 : decode cX8_shareOut 82 = .ok (.iload 4, 2) := by decide +kernel
theorem dX8_shareOut_84 : decode cX8_shareOut 84 = .ok (.iaload, 1) := by decide +kernel
theorem dX8_shareOut_85 : decode cX8_shareOut 85 = .ok (.isub, 1) := by decide +kernel
theorem dX8_shareOut_86 : decode cX8_shareOut 86 = .ok (.istore_n 2, 1) := by decide +kernel
theorem dX8_shareOut_87 : decode cX8_shareOut 87 = .ok (.iload_n 3, 1) := by decide +kernel
theorem dX8_shareOut_88 : decode cX8_shareOut 88 = .ok (.aload_n 0, 1) := by decide +kernel
theorem dX8_shareOut_89 : decode cX8_shareOut 89 = .ok (.getfield 33, 3) := by decide +kernel
theorem dX8_shareOut_92 : decode cX8_shareOut 92 = .ok (.iload 4, 2) := by decide +kernel
theorem dX8_shareOut_94 : decode cX8_shareOut 94 = .ok (.invokevirtual 163, 3) := by decide +kernel
theorem dX8_shareOut_97 : decode cX8_shareOut 97 = .ok (.ifCond .eq 21, 3) := by decide +kernel
theorem dX8_shareOut_100 : decode cX8_shareOut 100 = .ok (.aload_n 0, 1) := by decide +kernel
theorem dX8_shareOut_101 : decode cX8_shareOut 101 = .ok (.getfield 15, 3) := by decide +kernel
theorem dX8_shareOut_104 : decode cX8_shareOut 104 = .ok (.iload 4, 2) := by decide +kernel
theorem dX8_shareOut_106 : decode cX8_shareOut 106 = .ok (.iaload, 1) := by decide +kernel
theorem dX8_shareOut_107 : decode cX8_shareOut 107 = .ok (.aload_n 0, 1) := by decide +kernel
theorem dX8_shareOut_108 : decode cX8_shareOut 108 = .ok (.getfield 9, 3) := by decide +kernel
theorem dX8_shareOut_111 : decode cX8_shareOut 111 = .ok (.iload 4, 2) := by decide +kernel
theorem dX8_shareOut_113 : decode cX8_shareOut 113 = .ok (.iaload, 1) := by decide +kernel
theorem dX8_shareOut_114 : decode cX8_shareOut 114 = .ok (.isub, 1) := by decide +kernel
theorem dX8_shareOut_115 : decode cX8_shareOut 115 = .ok (.goto 4, 3) := by decide +kernel
theorem dX8_shareOut_118 : decode cX8_shareOut 118 = .ok (.iconst 0, 1) := by decide +kernel
theorem dX8_shareOut_119 : decode cX8_shareOut 119 = .ok (.iadd, 1) := by decide +kernel
theorem dX8_shareOut_120 : decode cX8_shareOut 120 = .ok (.istore_n 3, 1) := by decide +kernel
theorem dX8_shareOut_121 : decode cX8_shareOut 121 = .ok (.iinc 4 1, 3) := by decide +kernel
theorem dX8_shareOut_124 : decode cX8_shareOut 124 = .ok (.goto (-117), 3) := by decide +kernel
theorem dX8_shareOut_127 : decode cX8_shareOut 127 = .ok (.iload_n 2, 1) := by decide +kernel
theorem dX8_shareOut_128 : decode cX8_shareOut 128 = .ok (.ifCond .le 17, 3) := by decide +kernel
theorem dX8_shareOut_131 : decode cX8_shareOut 131 = .ok (.iload_n 3, 1) := by decide +kernel
theorem dX8_shareOut_132 : decode cX8_shareOut 132 = .ok (.iload_n 2, 1) := by decide +kernel
theorem dX8_shareOut_133 : decode cX8_shareOut 133 = .ok (.if_icmp .lt 12, 3) := by decide +kernel
theorem dX8_shareOut_136 : decode cX8_shareOut 136 = .ok (.aload_n 0, 1) := by decide +kernel
theorem dX8_shareOut_137 : decode cX8_shareOut 137 = .ok (.iload_n 2, 1) := by decide +kernel
theorem dX8_shareOut_138 : decode cX8_shareOut 138 = .ok (.iload_n 3, 1) := by decide +kernel
theorem dX8_shareOut_139 : decode cX8_shareOut 139 = .ok (.invokevirtual 166, 3) := by decide +kernel
theorem dX8_shareOut_142 : decode cX8_shareOut 142 = .ok (.goto 11, 3) := by decide +kernel
theorem dX8_shareOut_145 : decode cX8_shareOut 145 = .ok (.iload_n 2, 1) := by decide +kernel
theorem dX8_shareOut_146 : decode cX8_shareOut 146 = .ok (.ifCond .le 7, 3) := by decide +kernel
theorem dX8_shareOut_149 : decode cX8_shareOut 149 = .ok (.aload_n 0, 1) := by decide +kernel
theorem dX8_shareOut_150 : decode cX8_shareOut 150 = .ok (.invokevirtual 170, 3) := by decide +kernel
theorem dX8_shareOut_153 : decode cX8_shareOut 153 = .ok (.return_, 1) := by decide +kernel
section
variable {p : Program} {l : Launch} {e : Env} {s : State} {m : MethodId} {args : Array Value} {below : List Frame} {meth : Method} {c : Code} {G : Gx} {e0 : Nat} {α : Ax} {κ : Nat → Int} {B : Nat}
def wp_X0_canBePut_35 (u0 : Int) (p1 : Int) (p2 : Int) (p3 : Int) (Qm : Int → Mem → Prop) (z0 : Int) (M : Mem) : Prop := wp_X0_begin p1 M fun (x9 : Int) (M8 : Mem) => (inR (x9 + z0)) ∧ (bit (if p3 < (x9 + z0) then (0 : Int) else 1)) ∧ Qm (if p3 < (x9 + z0) then (0 : Int) else 1) M8
def wp_X0_canBePut (u0 : Int) (p1 : Int) (p2 : Int) (p3 : Int) (M : Mem) (Qm : Int → Mem → Prop) : Prop := (0 ≤ p2 ∧ p2 < 12) ∧ ((¬ (M 26 u0 p2) = 0 → (0 ≤ p2 ∧ p2 < 12) ∧ (0 ≤ p2 ∧ p2 < 12) ∧ (inR ((M 26 u0 p2) + 1)) ∧ wp_X0_canBePut_35 u0 p1 p2 p3 Qm (min (M 25 u0 p2) ((M 26 u0 p2) + 1)) M) ∧ ((M 26 u0 p2) = 0 → (0 ≤ p2 ∧ p2 < 12) ∧ wp_X0_canBePut_35 u0 p1 p2 p3 Qm (M 25 u0 p2) M))
set_option maxHeartbeats 4000000 in
set_option maxRecDepth 100000 in
theorem t_X0_canBePut_35 {u0 : Int} {p1 : Int} {p2 : Int} {p3 : Int} (X : CX p m c cX0_canBePut 5 s args RX0 G B κ meth (some .boolean)) (hu0 : okk κ 1 u0) (hp1 : inR p1) (hp2 : inR p2) (hp3 : inR p3) {Qm : Int → Mem → Prop} : ∀ z0 : Int, ∀ M : Mem, wp_X0_canBePut_35 u0 p1 p2 p3 Qm z0 M → inR z0 → ∀ (H : Heap) (locs : List Loc), Rp G e0 α κ B M H → va_S (fun q => B ≤ q) s.heap H locs → ∀ (ls : Array Slot), lv_has ls 5 [(1, .int (Int32.ofInt p1)), (3, .int (Int32.ofInt p3))] → WI p l e 1 s m args below meth c G e0 α κ B Qm H locs 35 ls [.int (Int32.ofInt z0)] := by
  intro z0 M hw hz0 H locs hR hS ls hl
  have hw : wp_X0_begin p1 M fun (x9 : Int) (M8 : Mem) => (inR (x9 + z0)) ∧ (bit (if p3 < (x9 + z0) then (0 : Int) else 1)) ∧ Qm (if p3 < (x9 + z0) then (0 : Int) else 1) M8 := hw
  refine lv_istore (lv' := [(4, .int (Int32.ofInt z0)), (1, .int (Int32.ofInt p1)), (3, .int (Int32.ofInt p3))]) X.1.1 X.1.2.1 dX0_canBePut_35 hl (by decide) rfl (fun ls hl => ?_)
  refine lv_iload_n X.1.1 X.1.2.1 dX0_canBePut_37 rfl (lv_at hl 1 rfl) ?_
  refine cs_X0_begin X hp1 (kc := 1) rmL_ok rm_c (by decide) hR hS kw_526 hl.1 dX0_canBePut_38 (Nat.le_of_ble_eq_true rfl) hw (fun x9 M8 H locs hw r10 hR hS => ?_)
  refine lv_iload X.1.1 X.1.2.1 dX0_canBePut_41 (lv_at hl 0 rfl) ?_
  have c11 := hw.1
  have hw := hw.2
  refine sa_iadd X.1 dX0_canBePut_43 ?_
  refine lv_iload_n X.1.1 X.1.2.1 dX0_canBePut_44 rfl (lv_at hl 2 rfl) ?_
  have r12 := inR_ite (c := p3 < (x9 + z0)) (inR_c (a := 0) rfl) (inR_c (a := 1) rfl)
  refine cut_j (A := ∀ v13 : Int, v13 = (if p3 < (x9 + z0) then (0 : Int) else 1) → WI p l e 1 s m args below meth c G e0 α κ B Qm H locs 53 ls [.int (Int32.ofInt v13)]) (fun J14 => ?_) ?_
  · refine sa_icmp_gt (tgt := 52) X.1 c11 hp3 dX0_canBePut_45 (by decide) (fun hc => ?_) (fun hc => ?_)
    · skip
      refine sa_const X.1 dX0_canBePut_52 ?_
      exact J14 (0) (if_pos (c := p3 < (x9 + z0)) hc).symm
    · skip
      refine sa_const X.1 dX0_canBePut_48 ?_
      refine lv_goto (tgt := 53) X.1.1 X.1.2.1 dX0_canBePut_49 (by decide) ?_
      exact J14 (1) (if_neg (c := p3 < (x9 + z0)) (Int.not_lt.mpr hc)).symm
  intro v13 hv13
  subst hv13
  have c15 := hw.1
  have hw := hw.2
  exact sa_zret X.1 X.2.2.2.1 X.2.2.2.2 hR hS c15 hw dX0_canBePut_53
set_option maxHeartbeats 4000000 in
set_option maxRecDepth 100000 in
theorem t_X0_canBePut {u0 : Int} {p1 : Int} {p2 : Int} {p3 : Int} (X : CX p m c cX0_canBePut 5 s args RX0 G B κ meth (some .boolean)) (hu0 : okk κ 1 u0) (hp1 : inR p1) (hp2 : inR p2) (hp3 : inR p3) {M : Mem} {Qm : Int → Mem → Prop} (hw : wp_X0_canBePut u0 p1 p2 p3 M Qm) (H : Heap) (locs : List Loc) (hR : Rp G e0 α κ B M H) (hS : va_S (fun q => B ≤ q) s.heap H locs) (ls : Array Slot) (hl : lv_has ls 5 [(0, .ref (α 1 u0)), (1, .int (Int32.ofInt p1)), (2, .int (Int32.ofInt p2)), (3, .int (Int32.ofInt p3))]) : WI p l e 1 s m args below meth c G e0 α κ B Qm H locs 0 ls [] := by
  have hw : (0 ≤ p2 ∧ p2 < 12) ∧ ((¬ (M 26 u0 p2) = 0 → (0 ≤ p2 ∧ p2 < 12) ∧ (0 ≤ p2 ∧ p2 < 12) ∧ (inR ((M 26 u0 p2) + 1)) ∧ wp_X0_canBePut_35 u0 p1 p2 p3 Qm (min (M 25 u0 p2) ((M 26 u0 p2) + 1)) M) ∧ ((M 26 u0 p2) = 0 → (0 ≤ p2 ∧ p2 < 12) ∧ wp_X0_canBePut_35 u0 p1 p2 p3 Qm (M 25 u0 p2) M)) := hw
  refine lv_aload_n X.1.1 X.1.2.1 dX0_canBePut_0 rfl (lv_at hl 0 rfl) ?_
  refine gt_1_6 X hR hu0 kw_1002 dX0_canBePut_1 ?_
  refine lv_iload_n X.1.1 X.1.2.1 dX0_canBePut_4 rfl (lv_at hl 2 rfl) ?_
  have c1 := hw.1
  have hw := hw.2
  refine ra_26 X hR (ok2 X.2.2.1 rfl hu0) c1 dX0_canBePut_5 ?_
  have r2 := hR.r 26 u0 p2
  refine sa_if_ne (tgt := 18) X.1 r2 dX0_canBePut_6 (by decide) (fun hc => ?_) (fun hc => ?_)
  · have hw := hw.1 hc
    refine lv_aload_n X.1.1 X.1.2.1 dX0_canBePut_18 rfl (lv_at hl 0 rfl) ?_
    refine gt_1_5 X hR hu0 kw_1001 dX0_canBePut_19 ?_
    refine lv_iload_n X.1.1 X.1.2.1 dX0_canBePut_22 rfl (lv_at hl 2 rfl) ?_
    have c3 := hw.1
    have hw := hw.2
    refine ra_25 X hR (ok2 X.2.2.1 rfl hu0) c3 dX0_canBePut_23 ?_
    have r4 := hR.r 25 u0 p2
    refine lv_aload_n X.1.1 X.1.2.1 dX0_canBePut_24 rfl (lv_at hl 0 rfl) ?_
    refine gt_1_6 X hR hu0 kw_1002 dX0_canBePut_25 ?_
    refine lv_iload_n X.1.1 X.1.2.1 dX0_canBePut_28 rfl (lv_at hl 2 rfl) ?_
    have c5 := hw.1
    have hw := hw.2
    refine ra_26 X hR (ok2 X.2.2.1 rfl hu0) c5 dX0_canBePut_29 ?_
    have r6 := hR.r 26 u0 p2
    refine sa_const X.1 dX0_canBePut_30 ?_
    have c7 := hw.1
    have hw := hw.2
    refine sa_iadd X.1 dX0_canBePut_31 ?_
    refine sa_min (R := rmL 1) X.1 r4 c7 kw_525 hl.1 kmath_min_s kmath_i kmath_min_c (by decide) (Nat.le_of_ble_eq_true rfl) rm_c dX0_canBePut_32 ?_
    exact t_X0_canBePut_35 X hu0 hp1 hp2 hp3 _ _ hw (inR_min r4 c7) _ _ hR hS _ (lv_sub hl [1, 3] rfl)
  · have hw := hw.2 hc
    refine lv_aload_n X.1.1 X.1.2.1 dX0_canBePut_9 rfl (lv_at hl 0 rfl) ?_
    refine gt_1_5 X hR hu0 kw_1001 dX0_canBePut_10 ?_
    refine lv_iload_n X.1.1 X.1.2.1 dX0_canBePut_13 rfl (lv_at hl 2 rfl) ?_
    have c16 := hw.1
    have hw := hw.2
    refine ra_25 X hR (ok2 X.2.2.1 rfl hu0) c16 dX0_canBePut_14 ?_
    have r17 := hR.r 25 u0 p2
    refine lv_goto (tgt := 35) X.1.1 X.1.2.1 dX0_canBePut_15 (by decide) ?_
    exact t_X0_canBePut_35 X hu0 hp1 hp2 hp3 _ _ hw r17 _ _ hR hS _ (lv_sub hl [1, 3] rfl)
theorem m_X0_canBePut {l : Launch} {G : Gx} {e0 : Nat} {α : Ax} {κ : Nat → Int} {B : Nat} {u0 : Int} {p1 : Int} {p2 : Int} {p3 : Int} (hκ : kOK κ) (hu0 : okk κ 1 u0) (hp1 : inR p1) (hp2 : inR p2) (hp3 : inR p3) {M : Mem} {Qm : Int → Mem → Prop} (hw : wp_X0_canBePut u0 p1 p2 p3 M Qm) : CI l yX0_canBePut (Cond.code yX0_canBePut cX0_canBePut 5 (some .boolean)) 1 G e0 α κ B [.ref (α 1 u0), .int (Int32.ofInt p1), .int (Int32.ofInt p2), .int (Int32.ofInt p3)] M Qm :=
  CI.mk hκ (by decide +kernel) rfl (Nat.le_of_ble_eq_true rfl) (lv := [(0, .ref (α 1 u0)), (1, .int (Int32.ofInt p1)), (2, .int (Int32.ofInt p2)), (3, .int (Int32.ofInt p3))]) rfl (fun p e s m args below meth c ls X hR hS hl => t_X0_canBePut X hu0 hp1 hp2 hp3 hw _ _ hR hS ls hl)
theorem cs_X0_canBePut {cc : ByteArray} {nL : Nat} {own : String} {ret : Option FieldType} {idx pc : Nat} {u0 : Int} {p1 : Int} {p2 : Int} {p3 : Int} (X : CX p m c cc nL s args own G B κ meth ret) (hu0 : okk κ 1 u0) (hp1 : inR p1) (hp2 : inR p2) (hp3 : inR p3) {kc : Nat} {R : Room} {cells slots : Nat} (hRr : RmOK R kc) (hcel : cells ≤ R.cells ∧ slots ≤ R.slots) (hk : 1 + 1 ≤ kc) {M : Mem} {H : Heap} {locs : List Loc} (hR : Rp G e0 α κ B M H) (hS : va_S (fun q => B ≤ q) s.heap H locs) (k1 : Cond.methodLink own idx yX0_canBePut ∈ gw) {ls : Array Slot} (hml : ls.size = nL) {rest : List Value} (hd : decode cc pc = .ok (.invokevirtual idx, 3)) (hrest : (rest.map fun v => v.category).sum ≤ 8) {Q : State → Prop} {Qm : Int → Mem → Prop} (hw : wp_X0_canBePut u0 p1 p2 p3 M Qm) (kk : ∀ (r : Int) (M1 : Mem) (H1 : Heap) (locs1 : List Loc), Qm r M1 → inR r → Rp G e0 α κ B M1 H1 → va_S (fun q => B ≤ q) s.heap H1 locs1 → W p l e R s m args below meth c H1 locs1 cells slots Q (F0 m (pc + 3) ls (.int (Int32.ofInt r) :: rest))) : W p l e R s m args below meth c H locs cells slots Q (F0 m pc ls (.int (Int32.ofInt p3) :: .int (Int32.ofInt p2) :: .int (Int32.ofInt p1) :: .ref (α 1 u0) :: rest)) :=
  sa_callVI 1 (n := 3) (As := [.int (Int32.ofInt p1), .int (Int32.ofInt p2), .int (Int32.ofInt p3)]) (rest := rest) X.1 X.2.1 hR hS (m_X0_canBePut X.2.2.1 hu0 hp1 hp2 hp3 hw) k1 kw_522 kw_11 kw_52 kw_524 ⟨rfl, by decide +kernel, by decide +kernel, by decide +kernel⟩ (rm_ok hRr hk (by decide)) (rc_1 X hR hu0) rfl rfl hrest hml hd hcel kk
def wp_X2_countNoteLines_85 (Qm : Int → Mem → Prop) (K12 : Int → Int → Mem → Prop) (y1 : Int) (y2 : Int) (M : Mem) : Prop := (inR (y2 + 1)) ∧ K12 y1 (y2 + 1) M
def wp_X2_countNoteLines_12 (Qm : Int → Mem → Prop) : Nat → Int → Int → Mem → Prop
  | 0 => fun _ _ _ => False
  | n + 1 => fun y1 y2 M => (((M 14 0 (-1)) ≤ y2 → Qm y1 M) ∧ (y2 < (M 14 0 (-1)) → (0 ≤ y2 ∧ y2 < M 14 0 (-1)) ∧ wp_X0_isOut (M 14 0 y2) M fun (x8 : Int) (M7 : Mem) => ((¬ x8 = 0 → wp_X2_countNoteLines_85 Qm (wp_X2_countNoteLines_12 Qm n) y1 y2 M7) ∧ (x8 = 0 → ((29 ≤ (M 6 (M 1 (M 14 0 y2) 0) 0) → wp_X2_countNoteLines_85 Qm (wp_X2_countNoteLines_12 Qm n) y1 y2 M7) ∧ ((M 6 (M 1 (M 14 0 y2) 0) 0) < 29 → (0 ≤ (M 6 (M 1 (M 14 0 y2) 0) 0) ∧ (M 6 (M 1 (M 14 0 y2) 0) 0) < 29) ∧ (inR ((M7 32 0 (M 6 (M 1 (M 14 0 y2) 0) 0)) + (M7 1 (M 14 0 y2) 11))) ∧ (0 ≤ (M 6 (M 1 (M 14 0 y2) 0) 0) ∧ (M 6 (M 1 (M 14 0 y2) 0) 0) < 29) ∧ ∀ M16 : Mem, M16 = up M7 32 0 (M 6 (M 1 (M 14 0 y2) 0) 0) ((M7 32 0 (M 6 (M 1 (M 14 0 y2) 0) 0)) + (M7 1 (M 14 0 y2) 11)) → (inR (y1 + (M16 1 (M 14 0 y2) 11))) ∧ wp_X2_countNoteLines_85 Qm (wp_X2_countNoteLines_12 Qm n) (y1 + (M16 1 (M 14 0 y2) 11)) y2 M16))))))
def wp_X2_countNoteLines (M : Mem) (Qm : Int → Mem → Prop) : Prop := wp_J7_fill_53178 32 0 0 M fun (M1 : Mem) => (∃ n20 : Nat, wp_X2_countNoteLines_12 Qm n20 0 0 M1)
set_option maxHeartbeats 4000000 in
set_option maxRecDepth 100000 in
theorem t_X2_countNoteLines_85 (X : CX p m c cX2_countNoteLines 5 s args RX2 G B κ meth (some .int)) {Qm : Int → Mem → Prop} {K12 : Int → Int → Mem → Prop} (hK12 : ∀ y1 : Int, ∀ y2 : Int, ∀ M : Mem, K12 y1 y2 M → inR y1 → inR y2 → ∀ (H : Heap) (locs : List Loc), Rp G e0 α κ B M H → va_S (fun q => B ≤ q) s.heap H locs → ∀ (ls : Array Slot), lv_has ls 5 [(0, .ref (α 3 0)), (1, .int (Int32.ofInt y1)), (2, .int (Int32.ofInt y2))] → WI p l e 3 s m args below meth c G e0 α κ B Qm H locs 12 ls []) : ∀ y1 : Int, ∀ y2 : Int, ∀ M : Mem, wp_X2_countNoteLines_85 Qm K12 y1 y2 M → inR y1 → inR y2 → ∀ (H : Heap) (locs : List Loc), Rp G e0 α κ B M H → va_S (fun q => B ≤ q) s.heap H locs → ∀ (ls : Array Slot), lv_has ls 5 [(0, .ref (α 3 0)), (1, .int (Int32.ofInt y1)), (2, .int (Int32.ofInt y2))] → WI p l e 3 s m args below meth c G e0 α κ B Qm H locs 85 ls [] := by
  intro y1 y2 M hw hy1 hy2 H locs hR hS ls hl
  have hw : (inR (y2 + 1)) ∧ K12 y1 (y2 + 1) M := hw
  have c10 := hw.1
  have hw := hw.2
  refine lv_iinc (v := Int32.ofInt (y2 + 1)) (lv' := [(2, .int (Int32.ofInt (y2 + 1))), (0, .ref (α 3 0)), (1, .int (Int32.ofInt y1))]) X.1.1 X.1.2.1 dX2_countNoteLines_85 hl (k := 2) rfl (Int32.ofInt_add _ _).symm (by decide) rfl (fun ls hl => ?_)
  refine lv_goto (tgt := 12) X.1.1 X.1.2.1 dX2_countNoteLines_88 (by decide) ?_
  exact hK12 _ _ _ hw hy1 c10 _ _ hR hS _ (lv_sub hl [1, 2, 0] rfl)
set_option maxHeartbeats 4000000 in
set_option maxRecDepth 100000 in
theorem t_X2_countNoteLines_12 (X : CX p m c cX2_countNoteLines 5 s args RX2 G B κ meth (some .int)) {Qm : Int → Mem → Prop} : ∀ n : Nat, ∀ y1 : Int, ∀ y2 : Int, ∀ M : Mem, wp_X2_countNoteLines_12 Qm n y1 y2 M → inR y1 → inR y2 → ∀ (H : Heap) (locs : List Loc), Rp G e0 α κ B M H → va_S (fun q => B ≤ q) s.heap H locs → ∀ (ls : Array Slot), lv_has ls 5 [(0, .ref (α 3 0)), (1, .int (Int32.ofInt y1)), (2, .int (Int32.ofInt y2))] → WI p l e 3 s m args below meth c G e0 α κ B Qm H locs 12 ls [] := by
  intro n
  induction n with
  | zero =>
    intro y1 y2 M hw hy1 hy2 H locs hR hS ls hl
    exact hw.elim
  | succ n ih =>
    intro y1 y2 M hw hy1 hy2 H locs hR hS ls hl
    have hw : (((M 14 0 (-1)) ≤ y2 → Qm y1 M) ∧ (y2 < (M 14 0 (-1)) → (0 ≤ y2 ∧ y2 < M 14 0 (-1)) ∧ wp_X0_isOut (M 14 0 y2) M fun (x8 : Int) (M7 : Mem) => ((¬ x8 = 0 → wp_X2_countNoteLines_85 Qm (wp_X2_countNoteLines_12 Qm n) y1 y2 M7) ∧ (x8 = 0 → ((29 ≤ (M 6 (M 1 (M 14 0 y2) 0) 0) → wp_X2_countNoteLines_85 Qm (wp_X2_countNoteLines_12 Qm n) y1 y2 M7) ∧ ((M 6 (M 1 (M 14 0 y2) 0) 0) < 29 → (0 ≤ (M 6 (M 1 (M 14 0 y2) 0) 0) ∧ (M 6 (M 1 (M 14 0 y2) 0) 0) < 29) ∧ (inR ((M7 32 0 (M 6 (M 1 (M 14 0 y2) 0) 0)) + (M7 1 (M 14 0 y2) 11))) ∧ (0 ≤ (M 6 (M 1 (M 14 0 y2) 0) 0) ∧ (M 6 (M 1 (M 14 0 y2) 0) 0) < 29) ∧ ∀ M16 : Mem, M16 = up M7 32 0 (M 6 (M 1 (M 14 0 y2) 0) 0) ((M7 32 0 (M 6 (M 1 (M 14 0 y2) 0) 0)) + (M7 1 (M 14 0 y2) 11)) → (inR (y1 + (M16 1 (M 14 0 y2) 11))) ∧ wp_X2_countNoteLines_85 Qm (wp_X2_countNoteLines_12 Qm n) (y1 + (M16 1 (M 14 0 y2) 11)) y2 M16)))))) := hw
    refine lv_iload_n X.1.1 X.1.2.1 dX2_countNoteLines_12 rfl (lv_at hl 2 rfl) ?_
    refine lv_aload_n X.1.1 X.1.2.1 dX2_countNoteLines_13 rfl (lv_at hl 0 rfl) ?_
    refine gt_3_0 X hR (okf X.2.2.1 rfl) kw_289 dX2_countNoteLines_14 ?_
    refine gt_4_2 X hR (okf X.2.2.1 rfl) kw_120 dX2_countNoteLines_17 ?_
    refine ls_size (by decide) (by decide) X (kc := 3) rmL_ok rm_c (by decide) hR hS kw_567 hl.1 dX2_countNoteLines_20 (Nat.le_of_ble_eq_true rfl) (fun H locs hR hS => ?_)
    have r2 := hR.r 14 0 (-1)
    refine sa_icmp_ge (tgt := 91) X.1 hy2 r2 dX2_countNoteLines_23 (by decide) (fun hc => ?_) (fun hc => ?_)
    · have hw := hw.1 hc
      refine lv_iload_n X.1.1 X.1.2.1 dX2_countNoteLines_91 rfl (lv_at hl 1 rfl) ?_
      exact sa_iret X.1 X.2.2.2.1 X.2.2.2.2 hR hS hy1 hw dX2_countNoteLines_92
    · have hw := hw.2 hc
      refine lv_aload_n X.1.1 X.1.2.1 dX2_countNoteLines_26 rfl (lv_at hl 0 rfl) ?_
      refine gt_3_0 X hR (okf X.2.2.1 rfl) kw_289 dX2_countNoteLines_27 ?_
      refine gt_4_2 X hR (okf X.2.2.1 rfl) kw_120 dX2_countNoteLines_30 ?_
      refine lv_iload_n X.1.1 X.1.2.1 dX2_countNoteLines_33 rfl (lv_at hl 2 rfl) ?_
      have c3 := hw.1
      have hw := hw.2
      refine ls_get (ci := 1) (by decide) (by decide) rfl X c3 (kc := 3) rmL_ok rm_c (by decide) hR hS kw_568 hl.1 dX2_countNoteLines_34 (Nat.le_of_ble_eq_true rfl) (fun H locs o4 hR hS => ?_)
      refine ck_1 X hR o4 kw_569 dX2_countNoteLines_37 ?_
      refine lv_astore_n (lv' := [(3, .ref (α 1 (M 14 0 y2))), (0, .ref (α 3 0)), (1, .int (Int32.ofInt y1)), (2, .int (Int32.ofInt y2))]) X.1.1 X.1.2.1 dX2_countNoteLines_40 rfl hl (by decide) rfl (fun ls hl => ?_)
      refine lv_aload_n X.1.1 X.1.2.1 dX2_countNoteLines_41 rfl (lv_at hl 0 rfl) ?_
      refine gt_1_0 X hR o4 kw_983 dX2_countNoteLines_42 ?_
      have o5 := hR.2.2.2.1 _ o4
      refine gt_6_0 X hR o5 kw_887 dX2_countNoteLines_45 ?_
      have r6 := hR.r 6 (M 1 (M 14 0 y2) 0) 0
      refine lv_istore (lv' := [(4, .int (Int32.ofInt (M 6 (M 1 (M 14 0 y2) 0) 0))), (3, .ref (α 1 (M 14 0 y2))), (0, .ref (α 3 0)), (1, .int (Int32.ofInt y1)), (2, .int (Int32.ofInt y2))]) X.1.1 X.1.2.1 dX2_countNoteLines_48 hl (by decide) rfl (fun ls hl => ?_)
      refine lv_aload_n X.1.1 X.1.2.1 dX2_countNoteLines_50 rfl (lv_at hl 1 rfl) ?_
      refine cs_X0_isOut X o4 (kc := 3) rmL_ok rm_c (by decide) hR hS kw_570 hl.1 dX2_countNoteLines_51 (Nat.le_of_ble_eq_true rfl) hw (fun x8 M7 H locs hw r9 hR hS => ?_)
      refine sa_if_ne (tgt := 85) X.1 r9 dX2_countNoteLines_54 (by decide) (fun hc => ?_) (fun hc => ?_)
      · have hw := hw.1 hc
        exact t_X2_countNoteLines_85 X ih _ _ _ hw hy1 hy2 _ _ hR hS _ (lv_sub hl [2, 3, 4] rfl)
      · have hw := hw.2 hc
        refine lv_iload X.1.1 X.1.2.1 dX2_countNoteLines_57 (lv_at hl 0 rfl) ?_
        refine sa_bipush X.1 dX2_countNoteLines_59 (by decide) ?_
        refine sa_icmp_ge (tgt := 85) X.1 r6 (inR_c (a := 29) rfl) dX2_countNoteLines_61 (by decide) (fun hc => ?_) (fun hc => ?_)
        · have hw := hw.1 hc
          exact t_X2_countNoteLines_85 X ih _ _ _ hw hy1 hy2 _ _ hR hS _ (lv_sub hl [2, 3, 4] rfl)
        · have hw := hw.2 hc
          refine lv_aload_n X.1.1 X.1.2.1 dX2_countNoteLines_64 rfl (lv_at hl 2 rfl) ?_
          refine gt_3_7 X hR (okf X.2.2.1 rfl) kw_296 dX2_countNoteLines_65 ?_
          refine lv_iload X.1.1 X.1.2.1 dX2_countNoteLines_68 (lv_at hl 0 rfl) ?_
          refine lv_dup2_11 X.1.1 X.1.2.1 dX2_countNoteLines_70 rfl rfl ?_
          have c11 := hw.1
          have hw := hw.2
          refine ra_32 X hR (okf X.2.2.1 rfl) c11 dX2_countNoteLines_71 ?_
          have r12 := hR.r 32 0 (M 6 (M 1 (M 14 0 y2) 0) 0)
          refine lv_aload_n X.1.1 X.1.2.1 dX2_countNoteLines_72 rfl (lv_at hl 1 rfl) ?_
          refine gt_1_11 X hR o4 kw_1013 dX2_countNoteLines_73 ?_
          have r13 := hR.r 1 (M 14 0 y2) 11
          have c14 := hw.1
          have hw := hw.2
          refine sa_iadd X.1 dX2_countNoteLines_76 ?_
          have c15 := hw.1
          have hw := hw.2
          refine wa_32 X hR hS (okf X.2.2.1 rfl) c15 c14 dX2_countNoteLines_77 (fun H locs hR hS => ?_)
          obtain ⟨M16, e17⟩ : ∃ z : Mem, z = up M7 32 0 (M 6 (M 1 (M 14 0 y2) 0) 0) ((M7 32 0 (M 6 (M 1 (M 14 0 y2) 0) 0)) + (M7 1 (M 14 0 y2) 11)) := ⟨_, rfl⟩
          rw [← e17] at hR
          have hw := hw M16 e17
          refine lv_iload_n X.1.1 X.1.2.1 dX2_countNoteLines_78 rfl (lv_at hl 3 rfl) ?_
          refine lv_aload_n X.1.1 X.1.2.1 dX2_countNoteLines_79 rfl (lv_at hl 1 rfl) ?_
          refine gt_1_11 X hR o4 kw_1013 dX2_countNoteLines_80 ?_
          have r18 := hR.r 1 (M 14 0 y2) 11
          have c19 := hw.1
          have hw := hw.2
          refine sa_iadd X.1 dX2_countNoteLines_83 ?_
          refine lv_istore_n (lv' := [(1, .int (Int32.ofInt (y1 + (M16 1 (M 14 0 y2) 11)))), (4, .int (Int32.ofInt (M 6 (M 1 (M 14 0 y2) 0) 0))), (3, .ref (α 1 (M 14 0 y2))), (0, .ref (α 3 0)), (2, .int (Int32.ofInt y2))]) X.1.1 X.1.2.1 dX2_countNoteLines_84 rfl hl (by decide) rfl (fun ls hl => ?_)
          exact t_X2_countNoteLines_85 X ih _ _ _ hw c19 hy2 _ _ hR hS _ (lv_sub hl [3, 0, 4] rfl)
set_option maxHeartbeats 4000000 in
set_option maxRecDepth 100000 in
theorem t_X2_countNoteLines (X : CX p m c cX2_countNoteLines 5 s args RX2 G B κ meth (some .int)) {M : Mem} {Qm : Int → Mem → Prop} (hw : wp_X2_countNoteLines M Qm) (H : Heap) (locs : List Loc) (hR : Rp G e0 α κ B M H) (hS : va_S (fun q => B ≤ q) s.heap H locs) (ls : Array Slot) (hl : lv_has ls 5 [(0, .ref (α 3 0))]) : WI p l e 3 s m args below meth c G e0 α κ B Qm H locs 0 ls [] := by
  have hw : wp_J7_fill_53178 32 0 0 M fun (M1 : Mem) => (∃ n20 : Nat, wp_X2_countNoteLines_12 Qm n20 0 0 M1) := hw
  refine lv_aload_n X.1.1 X.1.2.1 dX2_countNoteLines_0 rfl (lv_at hl 0 rfl) ?_
  refine gt_3_7 X hR (okf X.2.2.1 rfl) kw_296 dX2_countNoteLines_1 ?_
  refine sa_const X.1 dX2_countNoteLines_4 ?_
  refine cs_J7_fill_53178 X AI_32 (okf X.2.2.1 rfl) (inR_c (a := 0) rfl) (kc := 3) rmL_ok rm_c (by decide) hR hS kw_566 hl.1 dX2_countNoteLines_5 (Nat.le_of_ble_eq_true rfl) hw (fun M1 H locs hw hR hS => ?_)
  refine sa_const X.1 dX2_countNoteLines_8 ?_
  refine lv_istore_n (lv' := [(1, .int (Int32.ofInt 0)), (0, .ref (α 3 0))]) X.1.1 X.1.2.1 dX2_countNoteLines_9 rfl hl (by decide) rfl (fun ls hl => ?_)
  refine sa_const X.1 dX2_countNoteLines_10 ?_
  refine lv_istore_n (lv' := [(2, .int (Int32.ofInt 0)), (1, .int (Int32.ofInt 0)), (0, .ref (α 3 0))]) X.1.1 X.1.2.1 dX2_countNoteLines_11 rfl hl (by decide) rfl (fun ls hl => ?_)
  obtain ⟨n20, hw⟩ := hw
  exact t_X2_countNoteLines_12 X n20 _ _ _ hw (inR_c (a := 0) rfl) (inR_c (a := 0) rfl) _ _ hR hS _ (lv_sub hl [2, 1, 0] rfl)
theorem m_X2_countNoteLines {l : Launch} {G : Gx} {e0 : Nat} {α : Ax} {κ : Nat → Int} {B : Nat} (hκ : kOK κ) {M : Mem} {Qm : Int → Mem → Prop} (hw : wp_X2_countNoteLines M Qm) : CI l yX2_countNoteLines (Cond.code yX2_countNoteLines cX2_countNoteLines 5 (some .int)) 3 G e0 α κ B [.ref (α 3 0)] M Qm :=
  CI.mk hκ (by decide +kernel) rfl (Nat.le_of_ble_eq_true rfl) (lv := [(0, .ref (α 3 0))]) rfl (fun p e s m args below meth c ls X hR hS hl => t_X2_countNoteLines X hw _ _ hR hS ls hl)
theorem cs_X2_countNoteLines {cc : ByteArray} {nL : Nat} {own : String} {ret : Option FieldType} {idx pc : Nat} (X : CX p m c cc nL s args own G B κ meth ret) {kc : Nat} {R : Room} {cells slots : Nat} (hRr : RmOK R kc) (hcel : cells ≤ R.cells ∧ slots ≤ R.slots) (hk : 3 + 1 ≤ kc) {M : Mem} {H : Heap} {locs : List Loc} (hR : Rp G e0 α κ B M H) (hS : va_S (fun q => B ≤ q) s.heap H locs) (k1 : Cond.methodLink own idx yX2_countNoteLines ∈ gw) {ls : Array Slot} (hml : ls.size = nL) {rest : List Value} (hd : decode cc pc = .ok (.invokevirtual idx, 3)) (hrest : (rest.map fun v => v.category).sum ≤ 8) {Q : State → Prop} {Qm : Int → Mem → Prop} (hw : wp_X2_countNoteLines M Qm) (kk : ∀ (r : Int) (M1 : Mem) (H1 : Heap) (locs1 : List Loc), Qm r M1 → inR r → Rp G e0 α κ B M1 H1 → va_S (fun q => B ≤ q) s.heap H1 locs1 → W p l e R s m args below meth c H1 locs1 cells slots Q (F0 m (pc + 3) ls (.int (Int32.ofInt r) :: rest))) : W p l e R s m args below meth c H locs cells slots Q (F0 m pc ls (.ref (α 3 0) :: rest)) :=
  sa_callVI 3 (n := 0) (As := []) (rest := rest) X.1 X.2.1 hR hS (m_X2_countNoteLines X.2.2.1 hw) k1 kw_564 kw_14 kw_47 kw_565 ⟨rfl, by decide +kernel, by decide +kernel, by decide +kernel⟩ (rm_ok hRr hk (by decide)) (rc_3 X hR (okf X.2.2.1 rfl)) rfl rfl hrest hml hd hcel kk
def wp_X2_openPage (M : Mem) (Qm : Mem → Prop) : Prop := wp_X6_openPage 0 M fun (M1 : Mem) => ∀ M2 : Mem, M2 = up M1 3 0 13 1 → (inR ((M2 3 0 11) - (M2 3 0 9))) ∧ (1 < (M2 7 0 1) → (inR (1 + (M2 3 0 10))) ∧ True) ∧ (inR (if (M2 7 0 1) ≤ 1 then (0 : Int) else (1 + (M2 3 0 10)))) ∧ (inR (((M2 3 0 11) - (M2 3 0 9)) - (if (M2 7 0 1) ≤ 1 then (0 : Int) else (1 + (M2 3 0 10))))) ∧ ∀ M14 : Mem, M14 = up M2 3 0 12 (((M2 3 0 11) - (M2 3 0 9)) - (if (M2 7 0 1) ≤ 1 then (0 : Int) else (1 + (M2 3 0 10)))) → Qm M14
set_option maxHeartbeats 4000000 in
set_option maxRecDepth 100000 in
theorem t_X2_openPage (X : CX p m c cX2_openPage 1 s args RX2 G B κ meth none) {M : Mem} {Qm : Mem → Prop} (hw : wp_X2_openPage M Qm) (H : Heap) (locs : List Loc) (hR : Rp G e0 α κ B M H) (hS : va_S (fun q => B ≤ q) s.heap H locs) (ls : Array Slot) (hl : lv_has ls 1 [(0, .ref (α 3 0))]) : WV p l e 1 s m args below meth c G e0 α κ B Qm H locs 0 ls [] := by
  have hw : wp_X6_openPage 0 M fun (M1 : Mem) => ∀ M2 : Mem, M2 = up M1 3 0 13 1 → (inR ((M2 3 0 11) - (M2 3 0 9))) ∧ (1 < (M2 7 0 1) → (inR (1 + (M2 3 0 10))) ∧ True) ∧ (inR (if (M2 7 0 1) ≤ 1 then (0 : Int) else (1 + (M2 3 0 10)))) ∧ (inR (((M2 3 0 11) - (M2 3 0 9)) - (if (M2 7 0 1) ≤ 1 then (0 : Int) else (1 + (M2 3 0 10))))) ∧ ∀ M14 : Mem, M14 = up M2 3 0 12 (((M2 3 0 11) - (M2 3 0 9)) - (if (M2 7 0 1) ≤ 1 then (0 : Int) else (1 + (M2 3 0 10)))) → Qm M14 := hw
  refine lv_aload_n X.1.1 X.1.2.1 dX2_openPage_0 rfl (lv_at hl 0 rfl) ?_
  refine gt_3_2 X hR (okf X.2.2.1 rfl) kw_291 dX2_openPage_1 ?_
  refine cs_X6_openPage X (okp X.2.2.1 rfl (by decide)) (kc := 1) rmL_ok rm_c (by decide) hR hS kw_589 hl.1 dX2_openPage_4 (Nat.le_of_ble_eq_true rfl) hw (fun M1 H locs hw hR hS => ?_)
  refine lv_aload_n X.1.1 X.1.2.1 dX2_openPage_7 rfl (lv_at hl 0 rfl) ?_
  refine sa_const X.1 dX2_openPage_8 ?_
  refine pt_3_13 X hR hS (okf X.2.2.1 rfl) (Or.inr rfl) kw_302 dX2_openPage_9 (fun H locs hR hS => ?_)
  obtain ⟨M2, e3⟩ : ∃ z : Mem, z = up M1 3 0 13 1 := ⟨_, rfl⟩
  rw [← e3] at hR
  have hw := hw M2 e3
  refine lv_aload_n X.1.1 X.1.2.1 dX2_openPage_12 rfl (lv_at hl 0 rfl) ?_
  refine lv_aload_n X.1.1 X.1.2.1 dX2_openPage_13 rfl (lv_at hl 0 rfl) ?_
  refine gt_3_11 X hR (okf X.2.2.1 rfl) kw_300 dX2_openPage_14 ?_
  have r4 := hR.r 3 0 11
  refine lv_aload_n X.1.1 X.1.2.1 dX2_openPage_17 rfl (lv_at hl 0 rfl) ?_
  refine gt_3_9 X hR (okf X.2.2.1 rfl) kw_298 dX2_openPage_18 ?_
  have r5 := hR.r 3 0 9
  have c6 := hw.1
  have hw := hw.2
  refine sa_isub X.1 dX2_openPage_21 ?_
  refine lv_aload_n X.1.1 X.1.2.1 dX2_openPage_22 rfl (lv_at hl 0 rfl) ?_
  refine gt_3_2 X hR (okf X.2.2.1 rfl) kw_291 dX2_openPage_23 ?_
  refine gt_7_1 X hR (okp X.2.2.1 rfl (by decide)) kw_243 dX2_openPage_26 ?_
  have r7 := hR.r 7 0 1
  refine sa_const X.1 dX2_openPage_29 ?_
  have s9 := hw.1
  have hw := hw.2
  have c10 := hw.1
  have hw := hw.2
  refine cut_j (A := ∀ v11 : Int, v11 = (if (M2 7 0 1) ≤ 1 then (0 : Int) else (1 + (M2 3 0 10))) → WV p l e 1 s m args below meth c G e0 α κ B Qm H locs 43 ls [.int (Int32.ofInt v11), .int (Int32.ofInt ((M2 3 0 11) - (M2 3 0 9))), .ref (α 3 0)]) (fun J12 => ?_) ?_
  · refine sa_icmp_le (tgt := 42) X.1 r7 (inR_c (a := 1) rfl) dX2_openPage_30 (by decide) (fun hc => ?_) (fun hc => ?_)
    · skip
      refine sa_const X.1 dX2_openPage_42 ?_
      exact J12 (0) (if_pos (c := (M2 7 0 1) ≤ 1) hc).symm
    · have hw := s9 hc
      refine sa_const X.1 dX2_openPage_33 ?_
      refine lv_aload_n X.1.1 X.1.2.1 dX2_openPage_34 rfl (lv_at hl 0 rfl) ?_
      refine gt_3_10 X hR (okf X.2.2.1 rfl) kw_299 dX2_openPage_35 ?_
      have c8 := hw.1
      have hw := hw.2
      refine sa_iadd X.1 dX2_openPage_38 ?_
      refine lv_goto (tgt := 43) X.1.1 X.1.2.1 dX2_openPage_39 (by decide) ?_
      exact J12 ((1 + (M2 3 0 10))) (if_neg (c := (M2 7 0 1) ≤ 1) (Int.not_le.mpr hc)).symm
  intro v11 hv11
  subst hv11
  have c13 := hw.1
  have hw := hw.2
  refine sa_isub X.1 dX2_openPage_43 ?_
  refine pt_3_12 X hR hS (okf X.2.2.1 rfl) c13 kw_301 dX2_openPage_44 (fun H locs hR hS => ?_)
  obtain ⟨M14, e15⟩ : ∃ z : Mem, z = up M2 3 0 12 (((M2 3 0 11) - (M2 3 0 9)) - (if (M2 7 0 1) ≤ 1 then (0 : Int) else (1 + (M2 3 0 10)))) := ⟨_, rfl⟩
  rw [← e15] at hR
  have hw := hw M14 e15
  exact sa_vret X.1 X.2.2.2.1 X.2.2.2.2 hR hS hw dX2_openPage_47
theorem m_X2_openPage {l : Launch} {G : Gx} {e0 : Nat} {α : Ax} {κ : Nat → Int} {B : Nat} (hκ : kOK κ) {M : Mem} {Qm : Mem → Prop} (hw : wp_X2_openPage M Qm) : CV l yX2_openPage (Cond.code yX2_openPage cX2_openPage 1 none) 1 G e0 α κ B [.ref (α 3 0)] M Qm :=
  CV.mk hκ (by decide +kernel) rfl (Nat.le_of_ble_eq_true rfl) (lv := [(0, .ref (α 3 0))]) rfl (fun p e s m args below meth c ls X hR hS hl => t_X2_openPage X hw _ _ hR hS ls hl)
theorem cs_X2_openPage {cc : ByteArray} {nL : Nat} {own : String} {ret : Option FieldType} {idx pc : Nat} (X : CX p m c cc nL s args own G B κ meth ret) {kc : Nat} {R : Room} {cells slots : Nat} (hRr : RmOK R kc) (hcel : cells ≤ R.cells ∧ slots ≤ R.slots) (hk : 1 + 1 ≤ kc) {M : Mem} {H : Heap} {locs : List Loc} (hR : Rp G e0 α κ B M H) (hS : va_S (fun q => B ≤ q) s.heap H locs) (k1 : Cond.methodLink own idx yX2_openPage ∈ gw) {ls : Array Slot} (hml : ls.size = nL) {rest : List Value} (hd : decode cc pc = .ok (.invokevirtual idx, 3)) (hrest : (rest.map fun v => v.category).sum ≤ 8) {Q : State → Prop} {Qm : Mem → Prop} (hw : wp_X2_openPage M Qm) (kk : ∀ (M1 : Mem) (H1 : Heap) (locs1 : List Loc), Qm M1 → Rp G e0 α κ B M1 H1 → va_S (fun q => B ≤ q) s.heap H1 locs1 → W p l e R s m args below meth c H1 locs1 cells slots Q (F0 m (pc + 3) ls (rest))) : W p l e R s m args below meth c H locs cells slots Q (F0 m pc ls (.ref (α 3 0) :: rest)) :=
  sa_callVV 1 (n := 0) (As := []) (rest := rest) X.1 X.2.1 hR hS (m_X2_openPage X.2.2.1 hw) k1 kw_587 kw_16 kw_47 kw_588 ⟨rfl, by decide +kernel, by decide +kernel, by decide +kernel⟩ (rm_ok hRr hk (by decide)) (rc_3 X hR (okf X.2.2.1 rfl)) rfl rfl hrest hml hd hcel kk
def wp_X2_putPiece_52 (p1 : Int) (p2 : Int) (p3 : Int) (p4 : Int) (Qm : Mem → Prop) (M : Mem) : Prop := Qm M
def wp_X2_putPiece (p1 : Int) (p2 : Int) (p3 : Int) (p4 : Int) (M : Mem) (Qm : Mem → Prop) : Prop := ((p1 < 0 → wp_X2_putPiece_52 p1 p2 p3 p4 Qm M) ∧ (0 ≤ p1 → ((50 ≤ p1 → wp_X2_putPiece_52 p1 p2 p3 p4 Qm M) ∧ (p1 < 50 → (0 ≤ p1 ∧ p1 < 50) ∧ (0 ≤ p1 ∧ p1 < 50) ∧ (inR ((M 29 0 p1) - p2)) ∧ wp_X6_put 0 (M 28 0 p1) ((M 29 0 p1) - p2) p3 p4 M fun (M6 : Mem) => (inR (p3 + p4)) ∧ (inR ((M6 3 0 12) - (p3 + p4))) ∧ ∀ M10 : Mem, M10 = up M6 3 0 12 ((M6 3 0 12) - (p3 + p4)) → ∀ M12 : Mem, M12 = up M10 3 0 13 0 → wp_X2_putPiece_52 p1 p2 p3 p4 Qm M12))))
set_option maxHeartbeats 4000000 in
set_option maxRecDepth 100000 in
theorem t_X2_putPiece_52 {p1 : Int} {p2 : Int} {p3 : Int} {p4 : Int} (X : CX p m c cX2_putPiece 5 s args RX2 G B κ meth none) (hp1 : inR p1) (hp2 : inR p2) (hp3 : inR p3) (hp4 : inR p4) {Qm : Mem → Prop} : ∀ M : Mem, wp_X2_putPiece_52 p1 p2 p3 p4 Qm M → ∀ (H : Heap) (locs : List Loc), Rp G e0 α κ B M H → va_S (fun q => B ≤ q) s.heap H locs → ∀ (ls : Array Slot), lv_has ls 5 [] → WV p l e 1 s m args below meth c G e0 α κ B Qm H locs 52 ls [] := by
  intro M hw H locs hR hS ls hl
  have hw : Qm M := hw
  exact sa_vret X.1 X.2.2.2.1 X.2.2.2.2 hR hS hw dX2_putPiece_52
set_option maxHeartbeats 4000000 in
set_option maxRecDepth 100000 in
theorem t_X2_putPiece {p1 : Int} {p2 : Int} {p3 : Int} {p4 : Int} (X : CX p m c cX2_putPiece 5 s args RX2 G B κ meth none) (hp1 : inR p1) (hp2 : inR p2) (hp3 : inR p3) (hp4 : inR p4) {M : Mem} {Qm : Mem → Prop} (hw : wp_X2_putPiece p1 p2 p3 p4 M Qm) (H : Heap) (locs : List Loc) (hR : Rp G e0 α κ B M H) (hS : va_S (fun q => B ≤ q) s.heap H locs) (ls : Array Slot) (hl : lv_has ls 5 [(0, .ref (α 3 0)), (1, .int (Int32.ofInt p1)), (2, .int (Int32.ofInt p2)), (3, .int (Int32.ofInt p3)), (4, .int (Int32.ofInt p4))]) : WV p l e 1 s m args below meth c G e0 α κ B Qm H locs 0 ls [] := by
  have hw : ((p1 < 0 → wp_X2_putPiece_52 p1 p2 p3 p4 Qm M) ∧ (0 ≤ p1 → ((50 ≤ p1 → wp_X2_putPiece_52 p1 p2 p3 p4 Qm M) ∧ (p1 < 50 → (0 ≤ p1 ∧ p1 < 50) ∧ (0 ≤ p1 ∧ p1 < 50) ∧ (inR ((M 29 0 p1) - p2)) ∧ wp_X6_put 0 (M 28 0 p1) ((M 29 0 p1) - p2) p3 p4 M fun (M6 : Mem) => (inR (p3 + p4)) ∧ (inR ((M6 3 0 12) - (p3 + p4))) ∧ ∀ M10 : Mem, M10 = up M6 3 0 12 ((M6 3 0 12) - (p3 + p4)) → ∀ M12 : Mem, M12 = up M10 3 0 13 0 → wp_X2_putPiece_52 p1 p2 p3 p4 Qm M12)))) := hw
  refine lv_iload_n X.1.1 X.1.2.1 dX2_putPiece_0 rfl (lv_at hl 1 rfl) ?_
  refine sa_if_lt (tgt := 52) X.1 hp1 dX2_putPiece_1 (by decide) (fun hc => ?_) (fun hc => ?_)
  · have hw := hw.1 hc
    exact t_X2_putPiece_52 X hp1 hp2 hp3 hp4 _ hw _ _ hR hS _ (lv_sub hl [] rfl)
  · have hw := hw.2 hc
    refine lv_iload_n X.1.1 X.1.2.1 dX2_putPiece_4 rfl (lv_at hl 1 rfl) ?_
    refine sa_bipush X.1 dX2_putPiece_5 (by decide) ?_
    refine sa_icmp_ge (tgt := 52) X.1 hp1 (inR_c (a := 50) rfl) dX2_putPiece_7 (by decide) (fun hc => ?_) (fun hc => ?_)
    · have hw := hw.1 hc
      exact t_X2_putPiece_52 X hp1 hp2 hp3 hp4 _ hw _ _ hR hS _ (lv_sub hl [] rfl)
    · have hw := hw.2 hc
      refine lv_aload_n X.1.1 X.1.2.1 dX2_putPiece_10 rfl (lv_at hl 0 rfl) ?_
      refine gt_3_2 X hR (okf X.2.2.1 rfl) kw_291 dX2_putPiece_11 ?_
      refine lv_aload_n X.1.1 X.1.2.1 dX2_putPiece_14 rfl (lv_at hl 0 rfl) ?_
      refine gt_3_3 X hR (okf X.2.2.1 rfl) kw_292 dX2_putPiece_15 ?_
      refine lv_iload_n X.1.1 X.1.2.1 dX2_putPiece_18 rfl (lv_at hl 1 rfl) ?_
      have c1 := hw.1
      have hw := hw.2
      refine ra_28 X hR (okf X.2.2.1 rfl) c1 dX2_putPiece_19 ?_
      have r2 := hR.r 28 0 p1
      refine lv_aload_n X.1.1 X.1.2.1 dX2_putPiece_20 rfl (lv_at hl 0 rfl) ?_
      refine gt_3_4 X hR (okf X.2.2.1 rfl) kw_293 dX2_putPiece_21 ?_
      refine lv_iload_n X.1.1 X.1.2.1 dX2_putPiece_24 rfl (lv_at hl 1 rfl) ?_
      have c3 := hw.1
      have hw := hw.2
      refine ra_29 X hR (okf X.2.2.1 rfl) c3 dX2_putPiece_25 ?_
      have r4 := hR.r 29 0 p1
      refine lv_iload_n X.1.1 X.1.2.1 dX2_putPiece_26 rfl (lv_at hl 2 rfl) ?_
      have c5 := hw.1
      have hw := hw.2
      refine sa_isub X.1 dX2_putPiece_27 ?_
      refine lv_iload_n X.1.1 X.1.2.1 dX2_putPiece_28 rfl (lv_at hl 3 rfl) ?_
      refine lv_iload X.1.1 X.1.2.1 dX2_putPiece_29 (lv_at hl 4 rfl) ?_
      refine cs_X6_put X (okp X.2.2.1 rfl (by decide)) r2 c5 hp3 hp4 (kc := 1) rmL_ok rm_c (by decide) hR hS kw_601 hl.1 dX2_putPiece_31 (Nat.le_of_ble_eq_true rfl) hw (fun M6 H locs hw hR hS => ?_)
      refine lv_aload_n X.1.1 X.1.2.1 dX2_putPiece_34 rfl (lv_at hl 0 rfl) ?_
      refine lv_dup X.1.1 X.1.2.1 dX2_putPiece_35 rfl ?_
      refine gt_3_12 X hR (okf X.2.2.1 rfl) kw_301 dX2_putPiece_36 ?_
      have r7 := hR.r 3 0 12
      refine lv_iload_n X.1.1 X.1.2.1 dX2_putPiece_39 rfl (lv_at hl 3 rfl) ?_
      refine lv_iload X.1.1 X.1.2.1 dX2_putPiece_40 (lv_at hl 4 rfl) ?_
      have c8 := hw.1
      have hw := hw.2
      refine sa_iadd X.1 dX2_putPiece_42 ?_
      have c9 := hw.1
      have hw := hw.2
      refine sa_isub X.1 dX2_putPiece_43 ?_
      refine pt_3_12 X hR hS (okf X.2.2.1 rfl) c9 kw_301 dX2_putPiece_44 (fun H locs hR hS => ?_)
      obtain ⟨M10, e11⟩ : ∃ z : Mem, z = up M6 3 0 12 ((M6 3 0 12) - (p3 + p4)) := ⟨_, rfl⟩
      rw [← e11] at hR
      have hw := hw M10 e11
      refine lv_aload_n X.1.1 X.1.2.1 dX2_putPiece_47 rfl (lv_at hl 0 rfl) ?_
      refine sa_const X.1 dX2_putPiece_48 ?_
      refine pt_3_13 X hR hS (okf X.2.2.1 rfl) (Or.inl rfl) kw_302 dX2_putPiece_49 (fun H locs hR hS => ?_)
      obtain ⟨M12, e13⟩ : ∃ z : Mem, z = up M10 3 0 13 0 := ⟨_, rfl⟩
      rw [← e13] at hR
      have hw := hw M12 e13
      exact t_X2_putPiece_52 X hp1 hp2 hp3 hp4 _ hw _ _ hR hS _ (lv_sub hl [] rfl)
theorem m_X2_putPiece {l : Launch} {G : Gx} {e0 : Nat} {α : Ax} {κ : Nat → Int} {B : Nat} {p1 : Int} {p2 : Int} {p3 : Int} {p4 : Int} (hκ : kOK κ) (hp1 : inR p1) (hp2 : inR p2) (hp3 : inR p3) (hp4 : inR p4) {M : Mem} {Qm : Mem → Prop} (hw : wp_X2_putPiece p1 p2 p3 p4 M Qm) : CV l yX2_putPiece (Cond.code yX2_putPiece cX2_putPiece 5 none) 1 G e0 α κ B [.ref (α 3 0), .int (Int32.ofInt p1), .int (Int32.ofInt p2), .int (Int32.ofInt p3), .int (Int32.ofInt p4)] M Qm :=
  CV.mk hκ (by decide +kernel) rfl (Nat.le_of_ble_eq_true rfl) (lv := [(0, .ref (α 3 0)), (1, .int (Int32.ofInt p1)), (2, .int (Int32.ofInt p2)), (3, .int (Int32.ofInt p3)), (4, .int (Int32.ofInt p4))]) rfl (fun p e s m args below meth c ls X hR hS hl => t_X2_putPiece X hp1 hp2 hp3 hp4 hw _ _ hR hS ls hl)
theorem cs_X2_putPiece {cc : ByteArray} {nL : Nat} {own : String} {ret : Option FieldType} {idx pc : Nat} {p1 : Int} {p2 : Int} {p3 : Int} {p4 : Int} (X : CX p m c cc nL s args own G B κ meth ret) (hp1 : inR p1) (hp2 : inR p2) (hp3 : inR p3) (hp4 : inR p4) {kc : Nat} {R : Room} {cells slots : Nat} (hRr : RmOK R kc) (hcel : cells ≤ R.cells ∧ slots ≤ R.slots) (hk : 1 + 1 ≤ kc) {M : Mem} {H : Heap} {locs : List Loc} (hR : Rp G e0 α κ B M H) (hS : va_S (fun q => B ≤ q) s.heap H locs) (k1 : Cond.methodLink own idx yX2_putPiece ∈ gw) {ls : Array Slot} (hml : ls.size = nL) {rest : List Value} (hd : decode cc pc = .ok (.invokevirtual idx, 3)) (hrest : (rest.map fun v => v.category).sum ≤ 8) {Q : State → Prop} {Qm : Mem → Prop} (hw : wp_X2_putPiece p1 p2 p3 p4 M Qm) (kk : ∀ (M1 : Mem) (H1 : Heap) (locs1 : List Loc), Qm M1 → Rp G e0 α κ B M1 H1 → va_S (fun q => B ≤ q) s.heap H1 locs1 → W p l e R s m args below meth c H1 locs1 cells slots Q (F0 m (pc + 3) ls (rest))) : W p l e R s m args below meth c H locs cells slots Q (F0 m pc ls (.int (Int32.ofInt p4) :: .int (Int32.ofInt p3) :: .int (Int32.ofInt p2) :: .int (Int32.ofInt p1) :: .ref (α 3 0) :: rest)) :=
  sa_callVV 1 (n := 4) (As := [.int (Int32.ofInt p1), .int (Int32.ofInt p2), .int (Int32.ofInt p3), .int (Int32.ofInt p4)]) (rest := rest) X.1 X.2.1 hR hS (m_X2_putPiece X.2.2.1 hp1 hp2 hp3 hp4 hw) k1 kw_599 kw_18 kw_47 kw_600 ⟨rfl, by decide +kernel, by decide +kernel, by decide +kernel⟩ (rm_ok hRr hk (by decide)) (rc_3 X hR (okf X.2.2.1 rfl)) rfl rfl hrest hml hd hcel kk
def wp_X3_putBodyInOrder_89 (p1 : Int) (p2 : Int) (Qm : Mem → Prop) (K2 : Int → Mem → Prop) (y3 : Int) (q4 : Int) (y5 : Int) (M : Mem) : Prop := (0 ≤ y5 ∧ y5 < M 16 0 (-1)) ∧ (inR q4) ∧ ∀ M6 : Mem, M6 = up M 16 0 y5 q4 → (inR (y3 + 1)) ∧ K2 (y3 + 1) M6
def wp_X3_putBodyInOrder_29 (p1 : Int) (p2 : Int) (Qm : Mem → Prop) (K2 : Int → Mem → Prop) : Nat → Int → Int → Int → Mem → Prop
  | 0 => fun _ _ _ _ => False
  | n + 1 => fun y3 q4 y5 M => ((y5 ≤ 0 → wp_X3_putBodyInOrder_89 p1 p2 Qm K2 y3 q4 y5 M) ∧ (0 < y5 → (inR (y5 - 1)) ∧ (0 ≤ (y5 - 1) ∧ (y5 - 1) < M 16 0 (-1)) ∧ wp_X3_goesAhead q4 (M 16 0 (y5 - 1)) p1 p2 M fun (x13 : Int) (M12 : Mem) => ((x13 = 0 → wp_X3_putBodyInOrder_89 p1 p2 Qm K2 y3 q4 y5 M12) ∧ (¬ x13 = 0 → (inR (y5 - 1)) ∧ (0 ≤ (y5 - 1) ∧ (y5 - 1) < M12 16 0 (-1)) ∧ (0 ≤ y5 ∧ y5 < M12 16 0 (-1)) ∧ (inR (M12 16 0 (y5 - 1))) ∧ ∀ M20 : Mem, M20 = up M12 16 0 y5 (M12 16 0 (y5 - 1)) → (inR (y5 + (-1))) ∧ wp_X3_putBodyInOrder_29 p1 p2 Qm K2 n y3 q4 (y5 + (-1)) M20))))
def wp_X3_putBodyInOrder_2 (p1 : Int) (p2 : Int) (Qm : Mem → Prop) : Nat → Int → Mem → Prop
  | 0 => fun _ _ => False
  | n + 1 => fun y3 M => (((M 16 0 (-1)) ≤ y3 → Qm M) ∧ (y3 < (M 16 0 (-1)) → (0 ≤ y3 ∧ y3 < M 16 0 (-1)) ∧ (∃ n23 : Nat, wp_X3_putBodyInOrder_29 p1 p2 Qm (wp_X3_putBodyInOrder_2 p1 p2 Qm n) n23 y3 (M 16 0 y3) y3 M)))
def wp_X3_putBodyInOrder (p1 : Int) (p2 : Int) (M : Mem) (Qm : Mem → Prop) : Prop := (∃ n24 : Nat, wp_X3_putBodyInOrder_2 p1 p2 Qm n24 1 M)
set_option maxHeartbeats 4000000 in
set_option maxRecDepth 100000 in
theorem t_X3_putBodyInOrder_89 {p1 : Int} {p2 : Int} (X : CX p m c cX3_putBodyInOrder 6 s args RX3 G B κ meth none) (hp1 : inR p1) (hp2 : inR p2) {Qm : Mem → Prop} {K2 : Int → Mem → Prop} (hK2 : ∀ y3 : Int, ∀ M : Mem, K2 y3 M → inR y3 → ∀ (H : Heap) (locs : List Loc), Rp G e0 α κ B M H → va_S (fun q => B ≤ q) s.heap H locs → ∀ (ls : Array Slot), lv_has ls 6 [(0, .ref (α 4 0)), (1, .int (Int32.ofInt p1)), (2, .int (Int32.ofInt p2)), (3, .int (Int32.ofInt y3))] → WV p l e 5 s m args below meth c G e0 α κ B Qm H locs 2 ls []) : ∀ y3 : Int, ∀ q4 : Int, ∀ y5 : Int, ∀ M : Mem, wp_X3_putBodyInOrder_89 p1 p2 Qm K2 y3 q4 y5 M → inR y3 → okk κ 6 q4 → inR y5 → ∀ (H : Heap) (locs : List Loc), Rp G e0 α κ B M H → va_S (fun q => B ≤ q) s.heap H locs → ∀ (ls : Array Slot), lv_has ls 6 [(0, .ref (α 4 0)), (1, .int (Int32.ofInt p1)), (2, .int (Int32.ofInt p2)), (3, .int (Int32.ofInt y3)), (4, .ref (α 6 q4)), (5, .int (Int32.ofInt y5))] → WV p l e 5 s m args below meth c G e0 α κ B Qm H locs 89 ls [] := by
  intro y3 q4 y5 M hw hy3 hq4 hy5 H locs hR hS ls hl
  have hw : (0 ≤ y5 ∧ y5 < M 16 0 (-1)) ∧ (inR q4) ∧ ∀ M6 : Mem, M6 = up M 16 0 y5 q4 → (inR (y3 + 1)) ∧ K2 (y3 + 1) M6 := hw
  refine lv_aload_n X.1.1 X.1.2.1 dX3_putBodyInOrder_89 rfl (lv_at hl 0 rfl) ?_
  refine gt_4_4 X hR (okf X.2.2.1 rfl) kw_124 dX3_putBodyInOrder_90 ?_
  refine lv_iload X.1.1 X.1.2.1 dX3_putBodyInOrder_93 (lv_at hl 5 rfl) ?_
  refine lv_aload X.1.1 X.1.2.1 dX3_putBodyInOrder_95 (lv_at hl 4 rfl) ?_
  have c4 := hw.1
  have hw := hw.2
  have c5 := hw.1
  have hw := hw.2
  refine ls_set (L := 16) (⟨by decide, by decide⟩) X c4 hq4 c5 (kc := 5) rmL_ok rm_c (by decide) hR hS kw_1154 hl.1 dX3_putBodyInOrder_97 (Nat.le_of_ble_eq_true rfl) (fun H locs hR hS => ?_)
  obtain ⟨M6, e7⟩ : ∃ z : Mem, z = up M 16 0 y5 q4 := ⟨_, rfl⟩
  rw [← e7] at hR
  have hw := hw M6 e7
  refine lv_pop X.1.1 X.1.2.1 dX3_putBodyInOrder_100 rfl ?_
  have c8 := hw.1
  have hw := hw.2
  refine lv_iinc (v := Int32.ofInt (y3 + 1)) (lv' := [(3, .int (Int32.ofInt (y3 + 1))), (0, .ref (α 4 0)), (1, .int (Int32.ofInt p1)), (2, .int (Int32.ofInt p2)), (4, .ref (α 6 q4)), (5, .int (Int32.ofInt y5))]) X.1.1 X.1.2.1 dX3_putBodyInOrder_101 hl (k := 3) rfl (Int32.ofInt_add _ _).symm (by decide) rfl (fun ls hl => ?_)
  refine lv_goto (tgt := 2) X.1.1 X.1.2.1 dX3_putBodyInOrder_104 (by decide) ?_
  exact hK2 _ _ hw c8 _ _ hR hS _ (lv_sub hl [1, 2, 3, 0] rfl)
set_option maxHeartbeats 4000000 in
set_option maxRecDepth 100000 in
theorem t_X3_putBodyInOrder_29 {p1 : Int} {p2 : Int} (X : CX p m c cX3_putBodyInOrder 6 s args RX3 G B κ meth none) (hp1 : inR p1) (hp2 : inR p2) {Qm : Mem → Prop} {K2 : Int → Mem → Prop} (hK2 : ∀ y3 : Int, ∀ M : Mem, K2 y3 M → inR y3 → ∀ (H : Heap) (locs : List Loc), Rp G e0 α κ B M H → va_S (fun q => B ≤ q) s.heap H locs → ∀ (ls : Array Slot), lv_has ls 6 [(0, .ref (α 4 0)), (1, .int (Int32.ofInt p1)), (2, .int (Int32.ofInt p2)), (3, .int (Int32.ofInt y3))] → WV p l e 5 s m args below meth c G e0 α κ B Qm H locs 2 ls []) : ∀ n : Nat, ∀ y3 : Int, ∀ q4 : Int, ∀ y5 : Int, ∀ M : Mem, wp_X3_putBodyInOrder_29 p1 p2 Qm K2 n y3 q4 y5 M → inR y3 → okk κ 6 q4 → inR y5 → ∀ (H : Heap) (locs : List Loc), Rp G e0 α κ B M H → va_S (fun q => B ≤ q) s.heap H locs → ∀ (ls : Array Slot), lv_has ls 6 [(0, .ref (α 4 0)), (1, .int (Int32.ofInt p1)), (2, .int (Int32.ofInt p2)), (3, .int (Int32.ofInt y3)), (4, .ref (α 6 q4)), (5, .int (Int32.ofInt y5))] → WV p l e 5 s m args below meth c G e0 α κ B Qm H locs 29 ls [] := by
  intro n
  induction n with
  | zero =>
    intro y3 q4 y5 M hw hy3 hq4 hy5 H locs hR hS ls hl
    exact hw.elim
  | succ n ih =>
    intro y3 q4 y5 M hw hy3 hq4 hy5 H locs hR hS ls hl
    have hw : ((y5 ≤ 0 → wp_X3_putBodyInOrder_89 p1 p2 Qm K2 y3 q4 y5 M) ∧ (0 < y5 → (inR (y5 - 1)) ∧ (0 ≤ (y5 - 1) ∧ (y5 - 1) < M 16 0 (-1)) ∧ wp_X3_goesAhead q4 (M 16 0 (y5 - 1)) p1 p2 M fun (x13 : Int) (M12 : Mem) => ((x13 = 0 → wp_X3_putBodyInOrder_89 p1 p2 Qm K2 y3 q4 y5 M12) ∧ (¬ x13 = 0 → (inR (y5 - 1)) ∧ (0 ≤ (y5 - 1) ∧ (y5 - 1) < M12 16 0 (-1)) ∧ (0 ≤ y5 ∧ y5 < M12 16 0 (-1)) ∧ (inR (M12 16 0 (y5 - 1))) ∧ ∀ M20 : Mem, M20 = up M12 16 0 y5 (M12 16 0 (y5 - 1)) → (inR (y5 + (-1))) ∧ wp_X3_putBodyInOrder_29 p1 p2 Qm K2 n y3 q4 (y5 + (-1)) M20)))) := hw
    refine lv_iload X.1.1 X.1.2.1 dX3_putBodyInOrder_29 (lv_at hl 5 rfl) ?_
    refine sa_if_le (tgt := 89) X.1 hy5 dX3_putBodyInOrder_31 (by decide) (fun hc => ?_) (fun hc => ?_)
    · have hw := hw.1 hc
      exact t_X3_putBodyInOrder_89 X hp1 hp2 hK2 _ _ _ _ hw hy3 hq4 hy5 _ _ hR hS _ (lv_sub hl [0, 1, 2, 3, 4, 5] rfl)
    · have hw := hw.2 hc
      refine lv_aload_n X.1.1 X.1.2.1 dX3_putBodyInOrder_34 rfl (lv_at hl 0 rfl) ?_
      refine lv_aload X.1.1 X.1.2.1 dX3_putBodyInOrder_35 (lv_at hl 4 rfl) ?_
      refine lv_aload_n X.1.1 X.1.2.1 dX3_putBodyInOrder_37 rfl (lv_at hl 0 rfl) ?_
      refine gt_4_4 X hR (okf X.2.2.1 rfl) kw_124 dX3_putBodyInOrder_38 ?_
      refine lv_iload X.1.1 X.1.2.1 dX3_putBodyInOrder_41 (lv_at hl 5 rfl) ?_
      refine sa_const X.1 dX3_putBodyInOrder_43 ?_
      have c9 := hw.1
      have hw := hw.2
      refine sa_isub X.1 dX3_putBodyInOrder_44 ?_
      have c10 := hw.1
      have hw := hw.2
      refine ls_get (ci := 6) (by decide) (by decide) rfl X c10 (kc := 5) rmL_ok rm_c (by decide) hR hS kw_442 hl.1 dX3_putBodyInOrder_45 (Nat.le_of_ble_eq_true rfl) (fun H locs o11 hR hS => ?_)
      refine ck_6 X hR o11 kw_580 dX3_putBodyInOrder_48 ?_
      refine lv_iload_n X.1.1 X.1.2.1 dX3_putBodyInOrder_51 rfl (lv_at hl 1 rfl) ?_
      refine lv_iload_n X.1.1 X.1.2.1 dX3_putBodyInOrder_52 rfl (lv_at hl 2 rfl) ?_
      refine cs_X3_goesAhead X hq4 o11 hp1 hp2 (kc := 5) rmL_ok rm_c (by decide) hR hS kw_1145 hl.1 dX3_putBodyInOrder_53 (Nat.le_of_ble_eq_true rfl) hw (fun x13 M12 H locs hw r14 hR hS => ?_)
      refine sa_if_eq (tgt := 89) X.1 r14 dX3_putBodyInOrder_56 (by decide) (fun hc => ?_) (fun hc => ?_)
      · have hw := hw.1 hc
        exact t_X3_putBodyInOrder_89 X hp1 hp2 hK2 _ _ _ _ hw hy3 hq4 hy5 _ _ hR hS _ (lv_sub hl [0, 1, 2, 3, 4, 5] rfl)
      · have hw := hw.2 hc
        refine lv_aload_n X.1.1 X.1.2.1 dX3_putBodyInOrder_59 rfl (lv_at hl 0 rfl) ?_
        refine gt_4_4 X hR (okf X.2.2.1 rfl) kw_124 dX3_putBodyInOrder_60 ?_
        refine lv_iload X.1.1 X.1.2.1 dX3_putBodyInOrder_63 (lv_at hl 5 rfl) ?_
        refine lv_aload_n X.1.1 X.1.2.1 dX3_putBodyInOrder_65 rfl (lv_at hl 0 rfl) ?_
        refine gt_4_4 X hR (okf X.2.2.1 rfl) kw_124 dX3_putBodyInOrder_66 ?_
        refine lv_iload X.1.1 X.1.2.1 dX3_putBodyInOrder_69 (lv_at hl 5 rfl) ?_
        refine sa_const X.1 dX3_putBodyInOrder_71 ?_
        have c15 := hw.1
        have hw := hw.2
        refine sa_isub X.1 dX3_putBodyInOrder_72 ?_
        have c16 := hw.1
        have hw := hw.2
        refine ls_get (ci := 6) (by decide) (by decide) rfl X c16 (kc := 5) rmL_ok rm_c (by decide) hR hS kw_442 hl.1 dX3_putBodyInOrder_73 (Nat.le_of_ble_eq_true rfl) (fun H locs o17 hR hS => ?_)
        refine ck_6 X hR o17 kw_580 dX3_putBodyInOrder_76 ?_
        have c18 := hw.1
        have hw := hw.2
        have c19 := hw.1
        have hw := hw.2
        refine ls_set (L := 16) (⟨by decide, by decide⟩) X c18 o17 c19 (kc := 5) rmL_ok rm_c (by decide) hR hS kw_1154 hl.1 dX3_putBodyInOrder_79 (Nat.le_of_ble_eq_true rfl) (fun H locs hR hS => ?_)
        obtain ⟨M20, e21⟩ : ∃ z : Mem, z = up M12 16 0 y5 (M12 16 0 (y5 - 1)) := ⟨_, rfl⟩
        rw [← e21] at hR
        have hw := hw M20 e21
        refine lv_pop X.1.1 X.1.2.1 dX3_putBodyInOrder_82 rfl ?_
        have c22 := hw.1
        have hw := hw.2
        refine lv_iinc (v := Int32.ofInt (y5 + (-1))) (lv' := [(5, .int (Int32.ofInt (y5 + (-1)))), (0, .ref (α 4 0)), (1, .int (Int32.ofInt p1)), (2, .int (Int32.ofInt p2)), (3, .int (Int32.ofInt y3)), (4, .ref (α 6 q4))]) X.1.1 X.1.2.1 dX3_putBodyInOrder_83 hl (k := 5) rfl (Int32.ofInt_add _ _).symm (by decide) rfl (fun ls hl => ?_)
        refine lv_goto (tgt := 29) X.1.1 X.1.2.1 dX3_putBodyInOrder_86 (by decide) ?_
        exact ih _ _ _ _ hw hy3 hq4 c22 _ _ hR hS _ (lv_sub hl [1, 2, 3, 4, 5, 0] rfl)
set_option maxHeartbeats 4000000 in
set_option maxRecDepth 100000 in
theorem t_X3_putBodyInOrder_2 {p1 : Int} {p2 : Int} (X : CX p m c cX3_putBodyInOrder 6 s args RX3 G B κ meth none) (hp1 : inR p1) (hp2 : inR p2) {Qm : Mem → Prop} : ∀ n : Nat, ∀ y3 : Int, ∀ M : Mem, wp_X3_putBodyInOrder_2 p1 p2 Qm n y3 M → inR y3 → ∀ (H : Heap) (locs : List Loc), Rp G e0 α κ B M H → va_S (fun q => B ≤ q) s.heap H locs → ∀ (ls : Array Slot), lv_has ls 6 [(0, .ref (α 4 0)), (1, .int (Int32.ofInt p1)), (2, .int (Int32.ofInt p2)), (3, .int (Int32.ofInt y3))] → WV p l e 5 s m args below meth c G e0 α κ B Qm H locs 2 ls [] := by
  intro n
  induction n with
  | zero =>
    intro y3 M hw hy3 H locs hR hS ls hl
    exact hw.elim
  | succ n ih =>
    intro y3 M hw hy3 H locs hR hS ls hl
    have hw : (((M 16 0 (-1)) ≤ y3 → Qm M) ∧ (y3 < (M 16 0 (-1)) → (0 ≤ y3 ∧ y3 < M 16 0 (-1)) ∧ (∃ n23 : Nat, wp_X3_putBodyInOrder_29 p1 p2 Qm (wp_X3_putBodyInOrder_2 p1 p2 Qm n) n23 y3 (M 16 0 y3) y3 M))) := hw
    refine lv_iload_n X.1.1 X.1.2.1 dX3_putBodyInOrder_2 rfl (lv_at hl 3 rfl) ?_
    refine lv_aload_n X.1.1 X.1.2.1 dX3_putBodyInOrder_3 rfl (lv_at hl 0 rfl) ?_
    refine gt_4_4 X hR (okf X.2.2.1 rfl) kw_124 dX3_putBodyInOrder_4 ?_
    refine ls_size (by decide) (by decide) X (kc := 5) rmL_ok rm_c (by decide) hR hS kw_441 hl.1 dX3_putBodyInOrder_7 (Nat.le_of_ble_eq_true rfl) (fun H locs hR hS => ?_)
    have r1 := hR.r 16 0 (-1)
    refine sa_icmp_ge (tgt := 107) X.1 hy3 r1 dX3_putBodyInOrder_10 (by decide) (fun hc => ?_) (fun hc => ?_)
    · have hw := hw.1 hc
      exact sa_vret X.1 X.2.2.2.1 X.2.2.2.2 hR hS hw dX3_putBodyInOrder_107
    · have hw := hw.2 hc
      refine lv_aload_n X.1.1 X.1.2.1 dX3_putBodyInOrder_13 rfl (lv_at hl 0 rfl) ?_
      refine gt_4_4 X hR (okf X.2.2.1 rfl) kw_124 dX3_putBodyInOrder_14 ?_
      refine lv_iload_n X.1.1 X.1.2.1 dX3_putBodyInOrder_17 rfl (lv_at hl 3 rfl) ?_
      have c2 := hw.1
      have hw := hw.2
      refine ls_get (ci := 6) (by decide) (by decide) rfl X c2 (kc := 5) rmL_ok rm_c (by decide) hR hS kw_442 hl.1 dX3_putBodyInOrder_18 (Nat.le_of_ble_eq_true rfl) (fun H locs o3 hR hS => ?_)
      refine ck_6 X hR o3 kw_580 dX3_putBodyInOrder_21 ?_
      refine lv_astore (lv' := [(4, .ref (α 6 (M 16 0 y3))), (0, .ref (α 4 0)), (1, .int (Int32.ofInt p1)), (2, .int (Int32.ofInt p2)), (3, .int (Int32.ofInt y3))]) X.1.1 X.1.2.1 dX3_putBodyInOrder_24 hl (by decide) rfl (fun ls hl => ?_)
      refine lv_iload_n X.1.1 X.1.2.1 dX3_putBodyInOrder_26 rfl (lv_at hl 4 rfl) ?_
      refine lv_istore (lv' := [(5, .int (Int32.ofInt y3)), (4, .ref (α 6 (M 16 0 y3))), (0, .ref (α 4 0)), (1, .int (Int32.ofInt p1)), (2, .int (Int32.ofInt p2)), (3, .int (Int32.ofInt y3))]) X.1.1 X.1.2.1 dX3_putBodyInOrder_27 hl (by decide) rfl (fun ls hl => ?_)
      obtain ⟨n23, hw⟩ := hw
      exact t_X3_putBodyInOrder_29 X hp1 hp2 ih n23 _ _ _ _ hw hy3 o3 hy3 _ _ hR hS _ (lv_sub hl [2, 3, 4, 5, 1, 0] rfl)
set_option maxHeartbeats 4000000 in
set_option maxRecDepth 100000 in
theorem t_X3_putBodyInOrder {p1 : Int} {p2 : Int} (X : CX p m c cX3_putBodyInOrder 6 s args RX3 G B κ meth none) (hp1 : inR p1) (hp2 : inR p2) {M : Mem} {Qm : Mem → Prop} (hw : wp_X3_putBodyInOrder p1 p2 M Qm) (H : Heap) (locs : List Loc) (hR : Rp G e0 α κ B M H) (hS : va_S (fun q => B ≤ q) s.heap H locs) (ls : Array Slot) (hl : lv_has ls 6 [(0, .ref (α 4 0)), (1, .int (Int32.ofInt p1)), (2, .int (Int32.ofInt p2))]) : WV p l e 5 s m args below meth c G e0 α κ B Qm H locs 0 ls [] := by
  have hw : (∃ n24 : Nat, wp_X3_putBodyInOrder_2 p1 p2 Qm n24 1 M) := hw
  refine sa_const X.1 dX3_putBodyInOrder_0 ?_
  refine lv_istore_n (lv' := [(3, .int (Int32.ofInt 1)), (0, .ref (α 4 0)), (1, .int (Int32.ofInt p1)), (2, .int (Int32.ofInt p2))]) X.1.1 X.1.2.1 dX3_putBodyInOrder_1 rfl hl (by decide) rfl (fun ls hl => ?_)
  obtain ⟨n24, hw⟩ := hw
  exact t_X3_putBodyInOrder_2 X hp1 hp2 n24 _ _ hw (inR_c (a := 1) rfl) _ _ hR hS _ (lv_sub hl [1, 2, 3, 0] rfl)
theorem m_X3_putBodyInOrder {l : Launch} {G : Gx} {e0 : Nat} {α : Ax} {κ : Nat → Int} {B : Nat} {p1 : Int} {p2 : Int} (hκ : kOK κ) (hp1 : inR p1) (hp2 : inR p2) {M : Mem} {Qm : Mem → Prop} (hw : wp_X3_putBodyInOrder p1 p2 M Qm) : CV l yX3_putBodyInOrder (Cond.code yX3_putBodyInOrder cX3_putBodyInOrder 6 none) 5 G e0 α κ B [.ref (α 4 0), .int (Int32.ofInt p1), .int (Int32.ofInt p2)] M Qm :=
  CV.mk hκ (by decide +kernel) rfl (Nat.le_of_ble_eq_true rfl) (lv := [(0, .ref (α 4 0)), (1, .int (Int32.ofInt p1)), (2, .int (Int32.ofInt p2))]) rfl (fun p e s m args below meth c ls X hR hS hl => t_X3_putBodyInOrder X hp1 hp2 hw _ _ hR hS ls hl)
theorem cs_X3_putBodyInOrder {cc : ByteArray} {nL : Nat} {own : String} {ret : Option FieldType} {idx pc : Nat} {p1 : Int} {p2 : Int} (X : CX p m c cc nL s args own G B κ meth ret) (hp1 : inR p1) (hp2 : inR p2) {kc : Nat} {R : Room} {cells slots : Nat} (hRr : RmOK R kc) (hcel : cells ≤ R.cells ∧ slots ≤ R.slots) (hk : 5 + 1 ≤ kc) {M : Mem} {H : Heap} {locs : List Loc} (hR : Rp G e0 α κ B M H) (hS : va_S (fun q => B ≤ q) s.heap H locs) (k1 : Cond.methodLink own idx yX3_putBodyInOrder ∈ gw) {ls : Array Slot} (hml : ls.size = nL) {rest : List Value} (hd : decode cc pc = .ok (.invokevirtual idx, 3)) (hrest : (rest.map fun v => v.category).sum ≤ 8) {Q : State → Prop} {Qm : Mem → Prop} (hw : wp_X3_putBodyInOrder p1 p2 M Qm) (kk : ∀ (M1 : Mem) (H1 : Heap) (locs1 : List Loc), Qm M1 → Rp G e0 α κ B M1 H1 → va_S (fun q => B ≤ q) s.heap H1 locs1 → W p l e R s m args below meth c H1 locs1 cells slots Q (F0 m (pc + 3) ls (rest))) : W p l e R s m args below meth c H locs cells slots Q (F0 m pc ls (.int (Int32.ofInt p2) :: .int (Int32.ofInt p1) :: .ref (α 4 0) :: rest)) :=
  sa_callVV 5 (n := 2) (As := [.int (Int32.ofInt p1), .int (Int32.ofInt p2)]) (rest := rest) X.1 X.2.1 hR hS (m_X3_putBodyInOrder X.2.2.1 hp1 hp2 hw) k1 kw_1142 kw_1143 kw_39 kw_1144 ⟨rfl, by decide +kernel, by decide +kernel, by decide +kernel⟩ (rm_ok hRr hk (by decide)) (rc_4 X hR (okf X.2.2.1 rfl)) rfl rfl hrest hml hd hcel kk
def wp_X3_setWeight_38 (p1 : Int) (p2 : Int) (p3 : Int) (p4 : Int) (Qm : Int → Mem → Prop) (y5 : Int) (M : Mem) : Prop := Qm y5 M
def wp_X3_setWeight (p1 : Int) (p2 : Int) (p3 : Int) (p4 : Int) (M : Mem) (Qm : Int → Mem → Prop) : Prop := ((¬ p1 = 3 → wp_X3_weightOf p1 p2 p3 M fun (x2 : Int) (M1 : Mem) => wp_X3_putWeight p1 p2 p3 p4 M1 fun (M4 : Mem) => wp_X3_setWeight_38 p1 p2 p3 p4 Qm x2 M4) ∧ (p1 = 3 → ∀ M6 : Mem, M6 = up M 4 0 7 p4 → wp_X3_setWeight_38 p1 p2 p3 p4 Qm (M 4 0 7) M6))
set_option maxHeartbeats 4000000 in
set_option maxRecDepth 100000 in
theorem t_X3_setWeight_38 {p1 : Int} {p2 : Int} {p3 : Int} {p4 : Int} (X : CX p m c cX3_setWeight 6 s args RX3 G B κ meth (some .int)) (hp1 : inR p1) (hp2 : inR p2) (hp3 : inR p3) (hp4 : inR p4) {Qm : Int → Mem → Prop} : ∀ y5 : Int, ∀ M : Mem, wp_X3_setWeight_38 p1 p2 p3 p4 Qm y5 M → inR y5 → ∀ (H : Heap) (locs : List Loc), Rp G e0 α κ B M H → va_S (fun q => B ≤ q) s.heap H locs → ∀ (ls : Array Slot), lv_has ls 6 [(5, .int (Int32.ofInt y5))] → WI p l e 4 s m args below meth c G e0 α κ B Qm H locs 38 ls [] := by
  intro y5 M hw hy5 H locs hR hS ls hl
  have hw : Qm y5 M := hw
  refine lv_iload X.1.1 X.1.2.1 dX3_setWeight_38 (lv_at hl 0 rfl) ?_
  exact sa_iret X.1 X.2.2.2.1 X.2.2.2.2 hR hS hy5 hw dX3_setWeight_40
set_option maxHeartbeats 4000000 in
set_option maxRecDepth 100000 in
theorem t_X3_setWeight {p1 : Int} {p2 : Int} {p3 : Int} {p4 : Int} (X : CX p m c cX3_setWeight 6 s args RX3 G B κ meth (some .int)) (hp1 : inR p1) (hp2 : inR p2) (hp3 : inR p3) (hp4 : inR p4) {M : Mem} {Qm : Int → Mem → Prop} (hw : wp_X3_setWeight p1 p2 p3 p4 M Qm) (H : Heap) (locs : List Loc) (hR : Rp G e0 α κ B M H) (hS : va_S (fun q => B ≤ q) s.heap H locs) (ls : Array Slot) (hl : lv_has ls 6 [(0, .ref (α 4 0)), (1, .int (Int32.ofInt p1)), (2, .int (Int32.ofInt p2)), (3, .int (Int32.ofInt p3)), (4, .int (Int32.ofInt p4))]) : WI p l e 4 s m args below meth c G e0 α κ B Qm H locs 0 ls [] := by
  have hw : ((¬ p1 = 3 → wp_X3_weightOf p1 p2 p3 M fun (x2 : Int) (M1 : Mem) => wp_X3_putWeight p1 p2 p3 p4 M1 fun (M4 : Mem) => wp_X3_setWeight_38 p1 p2 p3 p4 Qm x2 M4) ∧ (p1 = 3 → ∀ M6 : Mem, M6 = up M 4 0 7 p4 → wp_X3_setWeight_38 p1 p2 p3 p4 Qm (M 4 0 7) M6)) := hw
  refine lv_iload_n X.1.1 X.1.2.1 dX3_setWeight_0 rfl (lv_at hl 1 rfl) ?_
  refine sa_const X.1 dX3_setWeight_1 ?_
  refine sa_icmp_ne (tgt := 20) X.1 hp1 (inR_c (a := 3) rfl) dX3_setWeight_2 (by decide) (fun hc => ?_) (fun hc => ?_)
  · have hw := hw.1 hc
    refine lv_aload_n X.1.1 X.1.2.1 dX3_setWeight_20 rfl (lv_at hl 0 rfl) ?_
    refine lv_iload_n X.1.1 X.1.2.1 dX3_setWeight_21 rfl (lv_at hl 1 rfl) ?_
    refine lv_iload_n X.1.1 X.1.2.1 dX3_setWeight_22 rfl (lv_at hl 2 rfl) ?_
    refine lv_iload_n X.1.1 X.1.2.1 dX3_setWeight_23 rfl (lv_at hl 3 rfl) ?_
    refine cs_X3_weightOf X hp1 hp2 hp3 (kc := 4) rmL_ok rm_c (by decide) hR hS kw_1214 hl.1 dX3_setWeight_24 (Nat.le_of_ble_eq_true rfl) hw (fun x2 M1 H locs hw r3 hR hS => ?_)
    refine lv_istore (lv' := [(5, .int (Int32.ofInt x2)), (0, .ref (α 4 0)), (1, .int (Int32.ofInt p1)), (2, .int (Int32.ofInt p2)), (3, .int (Int32.ofInt p3)), (4, .int (Int32.ofInt p4))]) X.1.1 X.1.2.1 dX3_setWeight_27 hl (by decide) rfl (fun ls hl => ?_)
    refine lv_aload_n X.1.1 X.1.2.1 dX3_setWeight_29 rfl (lv_at hl 1 rfl) ?_
    refine lv_iload_n X.1.1 X.1.2.1 dX3_setWeight_30 rfl (lv_at hl 2 rfl) ?_
    refine lv_iload_n X.1.1 X.1.2.1 dX3_setWeight_31 rfl (lv_at hl 3 rfl) ?_
    refine lv_iload_n X.1.1 X.1.2.1 dX3_setWeight_32 rfl (lv_at hl 4 rfl) ?_
    refine lv_iload X.1.1 X.1.2.1 dX3_setWeight_33 (lv_at hl 5 rfl) ?_
    refine cs_X3_putWeight X hp1 hp2 hp3 hp4 (kc := 4) rmL_ok rm_c (by decide) hR hS kw_1218 hl.1 dX3_setWeight_35 (Nat.le_of_ble_eq_true rfl) hw (fun M4 H locs hw hR hS => ?_)
    exact t_X3_setWeight_38 X hp1 hp2 hp3 hp4 _ _ hw r3 _ _ hR hS _ (lv_sub hl [0] rfl)
  · have hw := hw.2 hc
    refine lv_aload_n X.1.1 X.1.2.1 dX3_setWeight_5 rfl (lv_at hl 0 rfl) ?_
    refine gt_4_7 X hR (okf X.2.2.1 rfl) kw_130 dX3_setWeight_6 ?_
    have r5 := hR.r 4 0 7
    refine lv_istore (lv' := [(5, .int (Int32.ofInt (M 4 0 7))), (0, .ref (α 4 0)), (1, .int (Int32.ofInt p1)), (2, .int (Int32.ofInt p2)), (3, .int (Int32.ofInt p3)), (4, .int (Int32.ofInt p4))]) X.1.1 X.1.2.1 dX3_setWeight_9 hl (by decide) rfl (fun ls hl => ?_)
    refine lv_aload_n X.1.1 X.1.2.1 dX3_setWeight_11 rfl (lv_at hl 1 rfl) ?_
    refine lv_iload X.1.1 X.1.2.1 dX3_setWeight_12 (lv_at hl 5 rfl) ?_
    refine pt_4_7 X hR hS (okf X.2.2.1 rfl) hp4 kw_130 dX3_setWeight_14 (fun H locs hR hS => ?_)
    obtain ⟨M6, e7⟩ : ∃ z : Mem, z = up M 4 0 7 p4 := ⟨_, rfl⟩
    rw [← e7] at hR
    have hw := hw M6 e7
    refine lv_goto (tgt := 38) X.1.1 X.1.2.1 dX3_setWeight_17 (by decide) ?_
    exact t_X3_setWeight_38 X hp1 hp2 hp3 hp4 _ _ hw r5 _ _ hR hS _ (lv_sub hl [0] rfl)
theorem m_X3_setWeight {l : Launch} {G : Gx} {e0 : Nat} {α : Ax} {κ : Nat → Int} {B : Nat} {p1 : Int} {p2 : Int} {p3 : Int} {p4 : Int} (hκ : kOK κ) (hp1 : inR p1) (hp2 : inR p2) (hp3 : inR p3) (hp4 : inR p4) {M : Mem} {Qm : Int → Mem → Prop} (hw : wp_X3_setWeight p1 p2 p3 p4 M Qm) : CI l yX3_setWeight (Cond.code yX3_setWeight cX3_setWeight 6 (some .int)) 4 G e0 α κ B [.ref (α 4 0), .int (Int32.ofInt p1), .int (Int32.ofInt p2), .int (Int32.ofInt p3), .int (Int32.ofInt p4)] M Qm :=
  CI.mk hκ (by decide +kernel) rfl (Nat.le_of_ble_eq_true rfl) (lv := [(0, .ref (α 4 0)), (1, .int (Int32.ofInt p1)), (2, .int (Int32.ofInt p2)), (3, .int (Int32.ofInt p3)), (4, .int (Int32.ofInt p4))]) rfl (fun p e s m args below meth c ls X hR hS hl => t_X3_setWeight X hp1 hp2 hp3 hp4 hw _ _ hR hS ls hl)
theorem cs_X3_setWeight {cc : ByteArray} {nL : Nat} {own : String} {ret : Option FieldType} {idx pc : Nat} {p1 : Int} {p2 : Int} {p3 : Int} {p4 : Int} (X : CX p m c cc nL s args own G B κ meth ret) (hp1 : inR p1) (hp2 : inR p2) (hp3 : inR p3) (hp4 : inR p4) {kc : Nat} {R : Room} {cells slots : Nat} (hRr : RmOK R kc) (hcel : cells ≤ R.cells ∧ slots ≤ R.slots) (hk : 4 + 1 ≤ kc) {M : Mem} {H : Heap} {locs : List Loc} (hR : Rp G e0 α κ B M H) (hS : va_S (fun q => B ≤ q) s.heap H locs) (k1 : Cond.methodLink own idx yX3_setWeight ∈ gw) {ls : Array Slot} (hml : ls.size = nL) {rest : List Value} (hd : decode cc pc = .ok (.invokevirtual idx, 3)) (hrest : (rest.map fun v => v.category).sum ≤ 8) {Q : State → Prop} {Qm : Int → Mem → Prop} (hw : wp_X3_setWeight p1 p2 p3 p4 M Qm) (kk : ∀ (r : Int) (M1 : Mem) (H1 : Heap) (locs1 : List Loc), Qm r M1 → inR r → Rp G e0 α κ B M1 H1 → va_S (fun q => B ≤ q) s.heap H1 locs1 → W p l e R s m args below meth c H1 locs1 cells slots Q (F0 m (pc + 3) ls (.int (Int32.ofInt r) :: rest))) : W p l e R s m args below meth c H locs cells slots Q (F0 m pc ls (.int (Int32.ofInt p4) :: .int (Int32.ofInt p3) :: .int (Int32.ofInt p2) :: .int (Int32.ofInt p1) :: .ref (α 4 0) :: rest)) :=
  sa_callVI 4 (n := 4) (As := [.int (Int32.ofInt p1), .int (Int32.ofInt p2), .int (Int32.ofInt p3), .int (Int32.ofInt p4)]) (rest := rest) X.1 X.2.1 hR hS (m_X3_setWeight X.2.2.1 hp1 hp2 hp3 hp4 hw) k1 kw_1211 kw_1212 kw_39 kw_1213 ⟨rfl, by decide +kernel, by decide +kernel, by decide +kernel⟩ (rm_ok hRr hk (by decide)) (rc_4 X hR (okf X.2.2.1 rfl)) rfl rfl hrest hml hd hcel kk
def wp_X3_rowBeside_66 (p1 : Int) (p2 : Int) (Qm : Int → Mem → Prop) (q3 : Int) (z0 : Int) (M : Mem) : Prop := (inR (z0 + (M 6 q3 6))) ∧ (inR ((z0 + (M 6 q3 6)) + p2)) ∧ wp_X3_rowStandingAt ((z0 + (M 6 q3 6)) + p2) M fun (x15 : Int) (M14 : Mem) => Qm x15 M14
def wp_X3_rowBeside (p1 : Int) (p2 : Int) (M : Mem) (Qm : Int → Mem → Prop) : Prop := wp_X3_hasRow p1 M fun (x2 : Int) (M1 : Mem) => ((¬ x2 = 0 → (0 ≤ p1 ∧ p1 < M1 13 0 (-1)) ∧ ((¬ (M1 6 (M1 13 0 p1) 1) = 0 → ((¬ (M1 6 (M1 13 0 p1) 1) = 1 → (inR ((M1 15 0 (-1)) + (M1 16 0 (-1)))) ∧ wp_X3_rowBeside_66 p1 p2 Qm (M1 13 0 p1) ((M1 15 0 (-1)) + (M1 16 0 (-1))) M1) ∧ ((M1 6 (M1 13 0 p1) 1) = 1 → wp_X3_rowBeside_66 p1 p2 Qm (M1 13 0 p1) (M1 15 0 (-1)) M1))) ∧ ((M1 6 (M1 13 0 p1) 1) = 0 → wp_X3_rowBeside_66 p1 p2 Qm (M1 13 0 p1) 0 M1))) ∧ (x2 = 0 → Qm (-1) M1))
set_option maxHeartbeats 4000000 in
set_option maxRecDepth 100000 in
theorem t_X3_rowBeside_66 {p1 : Int} {p2 : Int} (X : CX p m c cX3_rowBeside 5 s args RX3 G B κ meth (some .int)) (hp1 : inR p1) (hp2 : inR p2) {Qm : Int → Mem → Prop} : ∀ q3 : Int, ∀ z0 : Int, ∀ M : Mem, wp_X3_rowBeside_66 p1 p2 Qm q3 z0 M → okk κ 6 q3 → inR z0 → ∀ (H : Heap) (locs : List Loc), Rp G e0 α κ B M H → va_S (fun q => B ≤ q) s.heap H locs → ∀ (ls : Array Slot), lv_has ls 5 [(0, .ref (α 4 0)), (2, .int (Int32.ofInt p2)), (3, .ref (α 6 q3))] → WI p l e 4 s m args below meth c G e0 α κ B Qm H locs 66 ls [.int (Int32.ofInt z0)] := by
  intro q3 z0 M hw hq3 hz0 H locs hR hS ls hl
  have hw : (inR (z0 + (M 6 q3 6))) ∧ (inR ((z0 + (M 6 q3 6)) + p2)) ∧ wp_X3_rowStandingAt ((z0 + (M 6 q3 6)) + p2) M fun (x15 : Int) (M14 : Mem) => Qm x15 M14 := hw
  refine lv_istore (lv' := [(4, .int (Int32.ofInt z0)), (0, .ref (α 4 0)), (2, .int (Int32.ofInt p2)), (3, .ref (α 6 q3))]) X.1.1 X.1.2.1 dX3_rowBeside_66 hl (by decide) rfl (fun ls hl => ?_)
  refine lv_aload_n X.1.1 X.1.2.1 dX3_rowBeside_68 rfl (lv_at hl 1 rfl) ?_
  refine lv_iload X.1.1 X.1.2.1 dX3_rowBeside_69 (lv_at hl 0 rfl) ?_
  refine lv_aload_n X.1.1 X.1.2.1 dX3_rowBeside_71 rfl (lv_at hl 3 rfl) ?_
  refine gt_6_6 X hR hq3 kw_905 dX3_rowBeside_72 ?_
  have r11 := hR.r 6 q3 6
  have c12 := hw.1
  have hw := hw.2
  refine sa_iadd X.1 dX3_rowBeside_75 ?_
  refine lv_iload_n X.1.1 X.1.2.1 dX3_rowBeside_76 rfl (lv_at hl 2 rfl) ?_
  have c13 := hw.1
  have hw := hw.2
  refine sa_iadd X.1 dX3_rowBeside_77 ?_
  refine cs_X3_rowStandingAt X c13 (kc := 4) rmL_ok rm_c (by decide) hR hS kw_1419 hl.1 dX3_rowBeside_78 (Nat.le_of_ble_eq_true rfl) hw (fun x15 M14 H locs hw r16 hR hS => ?_)
  exact sa_iret X.1 X.2.2.2.1 X.2.2.2.2 hR hS r16 hw dX3_rowBeside_81
set_option maxHeartbeats 4000000 in
set_option maxRecDepth 100000 in
theorem t_X3_rowBeside {p1 : Int} {p2 : Int} (X : CX p m c cX3_rowBeside 5 s args RX3 G B κ meth (some .int)) (hp1 : inR p1) (hp2 : inR p2) {M : Mem} {Qm : Int → Mem → Prop} (hw : wp_X3_rowBeside p1 p2 M Qm) (H : Heap) (locs : List Loc) (hR : Rp G e0 α κ B M H) (hS : va_S (fun q => B ≤ q) s.heap H locs) (ls : Array Slot) (hl : lv_has ls 5 [(0, .ref (α 4 0)), (1, .int (Int32.ofInt p1)), (2, .int (Int32.ofInt p2))]) : WI p l e 4 s m args below meth c G e0 α κ B Qm H locs 0 ls [] := by
  have hw : wp_X3_hasRow p1 M fun (x2 : Int) (M1 : Mem) => ((¬ x2 = 0 → (0 ≤ p1 ∧ p1 < M1 13 0 (-1)) ∧ ((¬ (M1 6 (M1 13 0 p1) 1) = 0 → ((¬ (M1 6 (M1 13 0 p1) 1) = 1 → (inR ((M1 15 0 (-1)) + (M1 16 0 (-1)))) ∧ wp_X3_rowBeside_66 p1 p2 Qm (M1 13 0 p1) ((M1 15 0 (-1)) + (M1 16 0 (-1))) M1) ∧ ((M1 6 (M1 13 0 p1) 1) = 1 → wp_X3_rowBeside_66 p1 p2 Qm (M1 13 0 p1) (M1 15 0 (-1)) M1))) ∧ ((M1 6 (M1 13 0 p1) 1) = 0 → wp_X3_rowBeside_66 p1 p2 Qm (M1 13 0 p1) 0 M1))) ∧ (x2 = 0 → Qm (-1) M1)) := hw
  refine lv_aload_n X.1.1 X.1.2.1 dX3_rowBeside_0 rfl (lv_at hl 0 rfl) ?_
  refine lv_iload_n X.1.1 X.1.2.1 dX3_rowBeside_1 rfl (lv_at hl 1 rfl) ?_
  refine cs_X3_hasRow X hp1 (kc := 4) rmL_ok rm_c (by decide) hR hS kw_639 hl.1 dX3_rowBeside_2 (Nat.le_of_ble_eq_true rfl) hw (fun x2 M1 H locs hw r3 hR hS => ?_)
  refine sa_if_ne (tgt := 10) X.1 r3 dX3_rowBeside_5 (by decide) (fun hc => ?_) (fun hc => ?_)
  · have hw := hw.1 hc
    refine lv_aload_n X.1.1 X.1.2.1 dX3_rowBeside_10 rfl (lv_at hl 0 rfl) ?_
    refine gt_4_1 X hR (okf X.2.2.1 rfl) kw_115 dX3_rowBeside_11 ?_
    refine lv_iload_n X.1.1 X.1.2.1 dX3_rowBeside_14 rfl (lv_at hl 1 rfl) ?_
    have c4 := hw.1
    have hw := hw.2
    refine ls_get (ci := 6) (by decide) (by decide) rfl X c4 (kc := 4) rmL_ok rm_c (by decide) hR hS kw_442 hl.1 dX3_rowBeside_15 (Nat.le_of_ble_eq_true rfl) (fun H locs o5 hR hS => ?_)
    refine ck_6 X hR o5 kw_580 dX3_rowBeside_18 ?_
    refine lv_astore_n (lv' := [(3, .ref (α 6 (M1 13 0 p1))), (0, .ref (α 4 0)), (1, .int (Int32.ofInt p1)), (2, .int (Int32.ofInt p2))]) X.1.1 X.1.2.1 dX3_rowBeside_21 rfl hl (by decide) rfl (fun ls hl => ?_)
    refine lv_aload_n X.1.1 X.1.2.1 dX3_rowBeside_22 rfl (lv_at hl 0 rfl) ?_
    refine gt_6_1 X hR o5 kw_893 dX3_rowBeside_23 ?_
    have r6 := hR.r 6 (M1 13 0 p1) 1
    refine sa_if_ne (tgt := 33) X.1 r6 dX3_rowBeside_26 (by decide) (fun hc => ?_) (fun hc => ?_)
    · have hw := hw.1 hc
      refine lv_aload_n X.1.1 X.1.2.1 dX3_rowBeside_33 rfl (lv_at hl 0 rfl) ?_
      refine gt_6_1 X hR o5 kw_893 dX3_rowBeside_34 ?_
      have r7 := hR.r 6 (M1 13 0 p1) 1
      refine sa_const X.1 dX3_rowBeside_37 ?_
      refine sa_icmp_ne (tgt := 51) X.1 r7 (inR_c (a := 1) rfl) dX3_rowBeside_38 (by decide) (fun hc => ?_) (fun hc => ?_)
      · have hw := hw.1 hc
        refine lv_aload_n X.1.1 X.1.2.1 dX3_rowBeside_51 rfl (lv_at hl 1 rfl) ?_
        refine gt_4_3 X hR (okf X.2.2.1 rfl) kw_123 dX3_rowBeside_52 ?_
        refine ls_size (by decide) (by decide) X (kc := 4) rmL_ok rm_c (by decide) hR hS kw_441 hl.1 dX3_rowBeside_55 (Nat.le_of_ble_eq_true rfl) (fun H locs hR hS => ?_)
        have r8 := hR.r 15 0 (-1)
        refine lv_aload_n X.1.1 X.1.2.1 dX3_rowBeside_58 rfl (lv_at hl 1 rfl) ?_
        refine gt_4_4 X hR (okf X.2.2.1 rfl) kw_124 dX3_rowBeside_59 ?_
        refine ls_size (by decide) (by decide) X (kc := 4) rmL_ok rm_c (by decide) hR hS kw_441 hl.1 dX3_rowBeside_62 (Nat.le_of_ble_eq_true rfl) (fun H locs hR hS => ?_)
        have r9 := hR.r 16 0 (-1)
        have c10 := hw.1
        have hw := hw.2
        refine sa_iadd X.1 dX3_rowBeside_65 ?_
        exact t_X3_rowBeside_66 X hp1 hp2 _ _ _ hw o5 c10 _ _ hR hS _ (lv_sub hl [1, 3, 0] rfl)
      · have hw := hw.2 hc
        refine lv_aload_n X.1.1 X.1.2.1 dX3_rowBeside_41 rfl (lv_at hl 1 rfl) ?_
        refine gt_4_3 X hR (okf X.2.2.1 rfl) kw_123 dX3_rowBeside_42 ?_
        refine ls_size (by decide) (by decide) X (kc := 4) rmL_ok rm_c (by decide) hR hS kw_441 hl.1 dX3_rowBeside_45 (Nat.le_of_ble_eq_true rfl) (fun H locs hR hS => ?_)
        have r17 := hR.r 15 0 (-1)
        refine lv_goto (tgt := 66) X.1.1 X.1.2.1 dX3_rowBeside_48 (by decide) ?_
        exact t_X3_rowBeside_66 X hp1 hp2 _ _ _ hw o5 r17 _ _ hR hS _ (lv_sub hl [1, 3, 0] rfl)
    · have hw := hw.2 hc
      refine sa_const X.1 dX3_rowBeside_29 ?_
      refine lv_goto (tgt := 66) X.1.1 X.1.2.1 dX3_rowBeside_30 (by decide) ?_
      exact t_X3_rowBeside_66 X hp1 hp2 _ _ _ hw o5 (inR_c (a := 0) rfl) _ _ hR hS _ (lv_sub hl [1, 3, 0] rfl)
  · have hw := hw.2 hc
    refine sa_const X.1 dX3_rowBeside_8 ?_
    exact sa_iret X.1 X.2.2.2.1 X.2.2.2.2 hR hS (inR_c (a := -1) rfl) hw dX3_rowBeside_9
theorem m_X3_rowBeside {l : Launch} {G : Gx} {e0 : Nat} {α : Ax} {κ : Nat → Int} {B : Nat} {p1 : Int} {p2 : Int} (hκ : kOK κ) (hp1 : inR p1) (hp2 : inR p2) {M : Mem} {Qm : Int → Mem → Prop} (hw : wp_X3_rowBeside p1 p2 M Qm) : CI l yX3_rowBeside (Cond.code yX3_rowBeside cX3_rowBeside 5 (some .int)) 4 G e0 α κ B [.ref (α 4 0), .int (Int32.ofInt p1), .int (Int32.ofInt p2)] M Qm :=
  CI.mk hκ (by decide +kernel) rfl (Nat.le_of_ble_eq_true rfl) (lv := [(0, .ref (α 4 0)), (1, .int (Int32.ofInt p1)), (2, .int (Int32.ofInt p2))]) rfl (fun p e s m args below meth c ls X hR hS hl => t_X3_rowBeside X hp1 hp2 hw _ _ hR hS ls hl)
theorem cs_X3_rowBeside {cc : ByteArray} {nL : Nat} {own : String} {ret : Option FieldType} {idx pc : Nat} {p1 : Int} {p2 : Int} (X : CX p m c cc nL s args own G B κ meth ret) (hp1 : inR p1) (hp2 : inR p2) {kc : Nat} {R : Room} {cells slots : Nat} (hRr : RmOK R kc) (hcel : cells ≤ R.cells ∧ slots ≤ R.slots) (hk : 4 + 1 ≤ kc) {M : Mem} {H : Heap} {locs : List Loc} (hR : Rp G e0 α κ B M H) (hS : va_S (fun q => B ≤ q) s.heap H locs) (k1 : Cond.methodLink own idx yX3_rowBeside ∈ gw) {ls : Array Slot} (hml : ls.size = nL) {rest : List Value} (hd : decode cc pc = .ok (.invokevirtual idx, 3)) (hrest : (rest.map fun v => v.category).sum ≤ 8) {Q : State → Prop} {Qm : Int → Mem → Prop} (hw : wp_X3_rowBeside p1 p2 M Qm) (kk : ∀ (r : Int) (M1 : Mem) (H1 : Heap) (locs1 : List Loc), Qm r M1 → inR r → Rp G e0 α κ B M1 H1 → va_S (fun q => B ≤ q) s.heap H1 locs1 → W p l e R s m args below meth c H1 locs1 cells slots Q (F0 m (pc + 3) ls (.int (Int32.ofInt r) :: rest))) : W p l e R s m args below meth c H locs cells slots Q (F0 m pc ls (.int (Int32.ofInt p2) :: .int (Int32.ofInt p1) :: .ref (α 4 0) :: rest)) :=
  sa_callVI 4 (n := 2) (As := [.int (Int32.ofInt p1), .int (Int32.ofInt p2)]) (rest := rest) X.1 X.2.1 hR hS (m_X3_rowBeside X.2.2.1 hp1 hp2 hw) k1 kw_1416 kw_1417 kw_39 kw_1418 ⟨rfl, by decide +kernel, by decide +kernel, by decide +kernel⟩ (rm_ok hRr hk (by decide)) (rc_4 X hR (okf X.2.2.1 rfl)) rfl rfl hrest hml hd hcel kk
def wp_X4_stackRows_200 (u0 : Int) (Qm : Mem → Prop) (M : Mem) : Prop := Qm M
def wp_X4_stackRows_194 (u0 : Int) (Qm : Mem → Prop) (K111 : Int → Int → Mem → Prop) (y1 : Int) (y2 : Int) (M : Mem) : Prop := (inR (y2 + 1)) ∧ K111 y1 (y2 + 1) M
def wp_X4_stackRows_188 (u0 : Int) (Qm : Mem → Prop) (K111 : Int → Int → Mem → Prop) (K123 : Int → Int → Int → Mem → Prop) (y1 : Int) (y2 : Int) (y3 : Int) (M : Mem) : Prop := (inR (y3 + 1)) ∧ K123 y1 y2 (y3 + 1) M
def wp_X4_stackRows_123 (u0 : Int) (Qm : Mem → Prop) (K111 : Int → Int → Mem → Prop) : Nat → Int → Int → Int → Mem → Prop
  | 0 => fun _ _ _ _ => False
  | n + 1 => fun y1 y2 y3 M => (((M 14 0 (-1)) ≤ y3 → wp_X4_stackRows_194 u0 Qm K111 y1 y2 M) ∧ (y3 < (M 14 0 (-1)) → ((100 ≤ y3 → wp_X4_stackRows_194 u0 Qm K111 y1 y2 M) ∧ (y3 < 100 → (0 ≤ y3 ∧ y3 < M 14 0 (-1)) ∧ ((¬ (M 1 (M 14 0 y3) 2) = y2 → wp_X4_stackRows_188 u0 Qm K111 (wp_X4_stackRows_123 u0 Qm K111 n) y1 y2 y3 M) ∧ ((M 1 (M 14 0 y3) 2) = y2 → (0 ≤ y3 ∧ y3 < M 14 0 (-1)) ∧ (0 ≤ y3 ∧ y3 < 100) ∧ wp_X4_lengthenLastRow u0 (M 14 0 y3) (M 34 u0 y3) M fun (M13 : Mem) => wp_X4_stackRows_188 u0 Qm K111 (wp_X4_stackRows_123 u0 Qm K111 n) y1 y2 y3 M13))))))
def wp_X4_stackRows_111 (u0 : Int) (Qm : Mem → Prop) : Nat → Int → Int → Mem → Prop
  | 0 => fun _ _ _ => False
  | n + 1 => fun y1 y2 M => ((y1 < y2 → wp_X4_stackRows_200 u0 Qm M) ∧ (y2 ≤ y1 → ((4 < y2 → wp_X4_stackRows_200 u0 Qm M) ∧ (y2 ≤ 4 → (∃ n14 : Nat, wp_X4_stackRows_123 u0 Qm (wp_X4_stackRows_111 u0 Qm n) n14 y1 y2 0 M)))))
def wp_X4_stackRows_109 (u0 : Int) (Qm : Mem → Prop) (y1 : Int) (M : Mem) : Prop := (∃ n15 : Nat, wp_X4_stackRows_111 u0 Qm n15 y1 2 M)
def wp_X4_stackRows_94 (u0 : Int) (Qm : Mem → Prop) (K12 : Int → Int → Mem → Prop) (y1 : Int) (y2 : Int) (q3 : Int) (M : Mem) : Prop := (inR (y2 + 1)) ∧ K12 (max y1 (M 1 q3 2)) (y2 + 1) M
def wp_X4_stackRows_12 (u0 : Int) (Qm : Mem → Prop) : Nat → Int → Int → Mem → Prop
  | 0 => fun _ _ _ => False
  | n + 1 => fun y1 y2 M => (((M 14 0 (-1)) ≤ y2 → wp_X4_stackRows_109 u0 Qm y1 M) ∧ (y2 < (M 14 0 (-1)) → ((100 ≤ y2 → wp_X4_stackRows_109 u0 Qm y1 M) ∧ (y2 < 100 → (0 ≤ y2 ∧ y2 < M 14 0 (-1)) ∧ ((¬ (M 1 (M 14 0 y2) 2) = 1 → wp_X4_stackRows_94 u0 Qm (wp_X4_stackRows_12 u0 Qm n) y1 y2 (M 14 0 y2) M) ∧ ((M 1 (M 14 0 y2) 2) = 1 → ((29 ≤ (M 6 (M 1 (M 14 0 y2) 0) 0) → wp_X4_stackRows_94 u0 Qm (wp_X4_stackRows_12 u0 Qm n) y1 y2 (M 14 0 y2) M) ∧ ((M 6 (M 1 (M 14 0 y2) 0) 0) < 29 → (0 ≤ (M 6 (M 1 (M 14 0 y2) 0) 0) ∧ (M 6 (M 1 (M 14 0 y2) 0) 0) < 29) ∧ (0 ≤ y2 ∧ y2 < 100) ∧ (0 ≤ (M 6 (M 1 (M 14 0 y2) 0) 0) ∧ (M 6 (M 1 (M 14 0 y2) 0) 0) < 29) ∧ ∀ M28 : Mem, M28 = up M 35 u0 (M 6 (M 1 (M 14 0 y2) 0) 0) (max (M 35 u0 (M 6 (M 1 (M 14 0 y2) 0) 0)) (M 34 u0 y2)) → wp_X4_stackRows_94 u0 Qm (wp_X4_stackRows_12 u0 Qm n) y1 y2 (M 14 0 y2) M28))))))))
def wp_X4_stackRows (u0 : Int) (M : Mem) (Qm : Mem → Prop) : Prop := wp_J7_fill_53178 35 u0 1 M fun (M1 : Mem) => (∃ n30 : Nat, wp_X4_stackRows_12 u0 Qm n30 1 0 M1)
set_option maxHeartbeats 4000000 in
set_option maxRecDepth 100000 in
theorem t_X4_stackRows_200 {u0 : Int} (X : CX p m c cX4_stackRows 5 s args RX4 G B κ meth none) (hu0 : okk κ 5 u0) {Qm : Mem → Prop} : ∀ M : Mem, wp_X4_stackRows_200 u0 Qm M → ∀ (H : Heap) (locs : List Loc), Rp G e0 α κ B M H → va_S (fun q => B ≤ q) s.heap H locs → ∀ (ls : Array Slot), lv_has ls 5 [] → WV p l e 4 s m args below meth c G e0 α κ B Qm H locs 200 ls [] := by
  intro M hw H locs hR hS ls hl
  have hw : Qm M := hw
  exact sa_vret X.1 X.2.2.2.1 X.2.2.2.2 hR hS hw dX4_stackRows_200
set_option maxHeartbeats 4000000 in
set_option maxRecDepth 100000 in
theorem t_X4_stackRows_194 {u0 : Int} (X : CX p m c cX4_stackRows 5 s args RX4 G B κ meth none) (hu0 : okk κ 5 u0) {Qm : Mem → Prop} {K111 : Int → Int → Mem → Prop} (hK111 : ∀ y1 : Int, ∀ y2 : Int, ∀ M : Mem, K111 y1 y2 M → inR y1 → inR y2 → ∀ (H : Heap) (locs : List Loc), Rp G e0 α κ B M H → va_S (fun q => B ≤ q) s.heap H locs → ∀ (ls : Array Slot), lv_has ls 5 [(0, .ref (α 5 u0)), (1, .int (Int32.ofInt y1)), (2, .int (Int32.ofInt y2))] → WV p l e 4 s m args below meth c G e0 α κ B Qm H locs 111 ls []) : ∀ y1 : Int, ∀ y2 : Int, ∀ M : Mem, wp_X4_stackRows_194 u0 Qm K111 y1 y2 M → inR y1 → inR y2 → ∀ (H : Heap) (locs : List Loc), Rp G e0 α κ B M H → va_S (fun q => B ≤ q) s.heap H locs → ∀ (ls : Array Slot), lv_has ls 5 [(0, .ref (α 5 u0)), (1, .int (Int32.ofInt y1)), (2, .int (Int32.ofInt y2))] → WV p l e 4 s m args below meth c G e0 α κ B Qm H locs 194 ls [] := by
  intro y1 y2 M hw hy1 hy2 H locs hR hS ls hl
  have hw : (inR (y2 + 1)) ∧ K111 y1 (y2 + 1) M := hw
  have c4 := hw.1
  have hw := hw.2
  refine lv_iinc (v := Int32.ofInt (y2 + 1)) (lv' := [(2, .int (Int32.ofInt (y2 + 1))), (0, .ref (α 5 u0)), (1, .int (Int32.ofInt y1))]) X.1.1 X.1.2.1 dX4_stackRows_194 hl (k := 2) rfl (Int32.ofInt_add _ _).symm (by decide) rfl (fun ls hl => ?_)
  refine lv_goto (tgt := 111) X.1.1 X.1.2.1 dX4_stackRows_197 (by decide) ?_
  exact hK111 _ _ _ hw hy1 c4 _ _ hR hS _ (lv_sub hl [1, 2, 0] rfl)
set_option maxHeartbeats 4000000 in
set_option maxRecDepth 100000 in
theorem t_X4_stackRows_188 {u0 : Int} (X : CX p m c cX4_stackRows 5 s args RX4 G B κ meth none) (hu0 : okk κ 5 u0) {Qm : Mem → Prop} {K111 : Int → Int → Mem → Prop} {K123 : Int → Int → Int → Mem → Prop} (hK111 : ∀ y1 : Int, ∀ y2 : Int, ∀ M : Mem, K111 y1 y2 M → inR y1 → inR y2 → ∀ (H : Heap) (locs : List Loc), Rp G e0 α κ B M H → va_S (fun q => B ≤ q) s.heap H locs → ∀ (ls : Array Slot), lv_has ls 5 [(0, .ref (α 5 u0)), (1, .int (Int32.ofInt y1)), (2, .int (Int32.ofInt y2))] → WV p l e 4 s m args below meth c G e0 α κ B Qm H locs 111 ls []) (hK123 : ∀ y1 : Int, ∀ y2 : Int, ∀ y3 : Int, ∀ M : Mem, K123 y1 y2 y3 M → inR y1 → inR y2 → inR y3 → ∀ (H : Heap) (locs : List Loc), Rp G e0 α κ B M H → va_S (fun q => B ≤ q) s.heap H locs → ∀ (ls : Array Slot), lv_has ls 5 [(0, .ref (α 5 u0)), (1, .int (Int32.ofInt y1)), (2, .int (Int32.ofInt y2)), (3, .int (Int32.ofInt y3))] → WV p l e 4 s m args below meth c G e0 α κ B Qm H locs 123 ls []) : ∀ y1 : Int, ∀ y2 : Int, ∀ y3 : Int, ∀ M : Mem, wp_X4_stackRows_188 u0 Qm K111 K123 y1 y2 y3 M → inR y1 → inR y2 → inR y3 → ∀ (H : Heap) (locs : List Loc), Rp G e0 α κ B M H → va_S (fun q => B ≤ q) s.heap H locs → ∀ (ls : Array Slot), lv_has ls 5 [(0, .ref (α 5 u0)), (1, .int (Int32.ofInt y1)), (2, .int (Int32.ofInt y2)), (3, .int (Int32.ofInt y3))] → WV p l e 4 s m args below meth c G e0 α κ B Qm H locs 188 ls [] := by
  intro y1 y2 y3 M hw hy1 hy2 hy3 H locs hR hS ls hl
  have hw : (inR (y3 + 1)) ∧ K123 y1 y2 (y3 + 1) M := hw
  have c8 := hw.1
  have hw := hw.2
  refine lv_iinc (v := Int32.ofInt (y3 + 1)) (lv' := [(3, .int (Int32.ofInt (y3 + 1))), (0, .ref (α 5 u0)), (1, .int (Int32.ofInt y1)), (2, .int (Int32.ofInt y2))]) X.1.1 X.1.2.1 dX4_stackRows_188 hl (k := 3) rfl (Int32.ofInt_add _ _).symm (by decide) rfl (fun ls hl => ?_)
  refine lv_goto (tgt := 123) X.1.1 X.1.2.1 dX4_stackRows_191 (by decide) ?_
  exact hK123 _ _ _ _ hw hy1 hy2 c8 _ _ hR hS _ (lv_sub hl [1, 2, 3, 0] rfl)
set_option maxHeartbeats 4000000 in
set_option maxRecDepth 100000 in
theorem t_X4_stackRows_123 {u0 : Int} (X : CX p m c cX4_stackRows 5 s args RX4 G B κ meth none) (hu0 : okk κ 5 u0) {Qm : Mem → Prop} {K111 : Int → Int → Mem → Prop} (hK111 : ∀ y1 : Int, ∀ y2 : Int, ∀ M : Mem, K111 y1 y2 M → inR y1 → inR y2 → ∀ (H : Heap) (locs : List Loc), Rp G e0 α κ B M H → va_S (fun q => B ≤ q) s.heap H locs → ∀ (ls : Array Slot), lv_has ls 5 [(0, .ref (α 5 u0)), (1, .int (Int32.ofInt y1)), (2, .int (Int32.ofInt y2))] → WV p l e 4 s m args below meth c G e0 α κ B Qm H locs 111 ls []) : ∀ n : Nat, ∀ y1 : Int, ∀ y2 : Int, ∀ y3 : Int, ∀ M : Mem, wp_X4_stackRows_123 u0 Qm K111 n y1 y2 y3 M → inR y1 → inR y2 → inR y3 → ∀ (H : Heap) (locs : List Loc), Rp G e0 α κ B M H → va_S (fun q => B ≤ q) s.heap H locs → ∀ (ls : Array Slot), lv_has ls 5 [(0, .ref (α 5 u0)), (1, .int (Int32.ofInt y1)), (2, .int (Int32.ofInt y2)), (3, .int (Int32.ofInt y3))] → WV p l e 4 s m args below meth c G e0 α κ B Qm H locs 123 ls [] := by
  intro n
  induction n with
  | zero =>
    intro y1 y2 y3 M hw hy1 hy2 hy3 H locs hR hS ls hl
    exact hw.elim
  | succ n ih =>
    intro y1 y2 y3 M hw hy1 hy2 hy3 H locs hR hS ls hl
    have hw : (((M 14 0 (-1)) ≤ y3 → wp_X4_stackRows_194 u0 Qm K111 y1 y2 M) ∧ (y3 < (M 14 0 (-1)) → ((100 ≤ y3 → wp_X4_stackRows_194 u0 Qm K111 y1 y2 M) ∧ (y3 < 100 → (0 ≤ y3 ∧ y3 < M 14 0 (-1)) ∧ ((¬ (M 1 (M 14 0 y3) 2) = y2 → wp_X4_stackRows_188 u0 Qm K111 (wp_X4_stackRows_123 u0 Qm K111 n) y1 y2 y3 M) ∧ ((M 1 (M 14 0 y3) 2) = y2 → (0 ≤ y3 ∧ y3 < M 14 0 (-1)) ∧ (0 ≤ y3 ∧ y3 < 100) ∧ wp_X4_lengthenLastRow u0 (M 14 0 y3) (M 34 u0 y3) M fun (M13 : Mem) => wp_X4_stackRows_188 u0 Qm K111 (wp_X4_stackRows_123 u0 Qm K111 n) y1 y2 y3 M13)))))) := hw
    refine lv_iload_n X.1.1 X.1.2.1 dX4_stackRows_123 rfl (lv_at hl 3 rfl) ?_
    refine lv_aload_n X.1.1 X.1.2.1 dX4_stackRows_124 rfl (lv_at hl 0 rfl) ?_
    refine gt_5_0 X hR hu0 kw_191 dX4_stackRows_125 ?_
    refine gt_4_2 X hR (okf X.2.2.1 rfl) kw_119 dX4_stackRows_128 ?_
    refine ls_size (by decide) (by decide) X (kc := 4) rmL_ok rm_c (by decide) hR hS kw_511 hl.1 dX4_stackRows_131 (Nat.le_of_ble_eq_true rfl) (fun H locs hR hS => ?_)
    have r3 := hR.r 14 0 (-1)
    refine sa_icmp_ge (tgt := 194) X.1 hy3 r3 dX4_stackRows_134 (by decide) (fun hc => ?_) (fun hc => ?_)
    · have hw := hw.1 hc
      exact t_X4_stackRows_194 X hu0 hK111 _ _ _ hw hy1 hy2 _ _ hR hS _ (lv_sub hl [0, 1, 2] rfl)
    · have hw := hw.2 hc
      refine lv_iload_n X.1.1 X.1.2.1 dX4_stackRows_137 rfl (lv_at hl 3 rfl) ?_
      refine sa_bipush X.1 dX4_stackRows_138 (by decide) ?_
      refine sa_icmp_ge (tgt := 194) X.1 hy3 (inR_c (a := 100) rfl) dX4_stackRows_140 (by decide) (fun hc => ?_) (fun hc => ?_)
      · have hw := hw.1 hc
        exact t_X4_stackRows_194 X hu0 hK111 _ _ _ hw hy1 hy2 _ _ hR hS _ (lv_sub hl [0, 1, 2] rfl)
      · have hw := hw.2 hc
        refine lv_aload_n X.1.1 X.1.2.1 dX4_stackRows_143 rfl (lv_at hl 0 rfl) ?_
        refine gt_5_0 X hR hu0 kw_191 dX4_stackRows_144 ?_
        refine gt_4_2 X hR (okf X.2.2.1 rfl) kw_119 dX4_stackRows_147 ?_
        refine lv_iload_n X.1.1 X.1.2.1 dX4_stackRows_150 rfl (lv_at hl 3 rfl) ?_
        have c5 := hw.1
        have hw := hw.2
        refine ls_get (ci := 1) (by decide) (by decide) rfl X c5 (kc := 4) rmL_ok rm_c (by decide) hR hS kw_512 hl.1 dX4_stackRows_151 (Nat.le_of_ble_eq_true rfl) (fun H locs o6 hR hS => ?_)
        refine ck_1 X hR o6 kw_513 dX4_stackRows_154 ?_
        refine gt_1_2 X hR o6 kw_992 dX4_stackRows_157 ?_
        have r7 := hR.r 1 (M 14 0 y3) 2
        refine lv_iload_n X.1.1 X.1.2.1 dX4_stackRows_160 rfl (lv_at hl 2 rfl) ?_
        refine sa_icmp_ne (tgt := 188) X.1 r7 hy2 dX4_stackRows_161 (by decide) (fun hc => ?_) (fun hc => ?_)
        · have hw := hw.1 hc
          exact t_X4_stackRows_188 X hu0 hK111 ih _ _ _ _ hw hy1 hy2 hy3 _ _ hR hS _ (lv_sub hl [0, 1, 2, 3] rfl)
        · have hw := hw.2 hc
          refine lv_aload_n X.1.1 X.1.2.1 dX4_stackRows_164 rfl (lv_at hl 0 rfl) ?_
          refine lv_aload_n X.1.1 X.1.2.1 dX4_stackRows_165 rfl (lv_at hl 0 rfl) ?_
          refine gt_5_0 X hR hu0 kw_191 dX4_stackRows_166 ?_
          refine gt_4_2 X hR (okf X.2.2.1 rfl) kw_119 dX4_stackRows_169 ?_
          refine lv_iload_n X.1.1 X.1.2.1 dX4_stackRows_172 rfl (lv_at hl 3 rfl) ?_
          have c9 := hw.1
          have hw := hw.2
          refine ls_get (ci := 1) (by decide) (by decide) rfl X c9 (kc := 4) rmL_ok rm_c (by decide) hR hS kw_512 hl.1 dX4_stackRows_173 (Nat.le_of_ble_eq_true rfl) (fun H locs o10 hR hS => ?_)
          refine ck_1 X hR o10 kw_513 dX4_stackRows_176 ?_
          refine lv_aload_n X.1.1 X.1.2.1 dX4_stackRows_179 rfl (lv_at hl 0 rfl) ?_
          refine gt_5_1 X hR hu0 kw_192 dX4_stackRows_180 ?_
          refine lv_iload_n X.1.1 X.1.2.1 dX4_stackRows_183 rfl (lv_at hl 3 rfl) ?_
          have c11 := hw.1
          have hw := hw.2
          refine ra_34 X hR (okp X.2.2.1 rfl (pr_5 X.2.2.1 hu0)) c11 dX4_stackRows_184 ?_
          have r12 := hR.r 34 u0 y3
          refine cs_X4_lengthenLastRow X hu0 o10 r12 (kc := 4) rmL_ok rm_c (by decide) hR hS kw_535 hl.1 dX4_stackRows_185 (Nat.le_of_ble_eq_true rfl) hw (fun M13 H locs hw hR hS => ?_)
          exact t_X4_stackRows_188 X hu0 hK111 ih _ _ _ _ hw hy1 hy2 hy3 _ _ hR hS _ (lv_sub hl [0, 1, 2, 3] rfl)
set_option maxHeartbeats 4000000 in
set_option maxRecDepth 100000 in
theorem t_X4_stackRows_111 {u0 : Int} (X : CX p m c cX4_stackRows 5 s args RX4 G B κ meth none) (hu0 : okk κ 5 u0) {Qm : Mem → Prop} : ∀ n : Nat, ∀ y1 : Int, ∀ y2 : Int, ∀ M : Mem, wp_X4_stackRows_111 u0 Qm n y1 y2 M → inR y1 → inR y2 → ∀ (H : Heap) (locs : List Loc), Rp G e0 α κ B M H → va_S (fun q => B ≤ q) s.heap H locs → ∀ (ls : Array Slot), lv_has ls 5 [(0, .ref (α 5 u0)), (1, .int (Int32.ofInt y1)), (2, .int (Int32.ofInt y2))] → WV p l e 4 s m args below meth c G e0 α κ B Qm H locs 111 ls [] := by
  intro n
  induction n with
  | zero =>
    intro y1 y2 M hw hy1 hy2 H locs hR hS ls hl
    exact hw.elim
  | succ n ih =>
    intro y1 y2 M hw hy1 hy2 H locs hR hS ls hl
    have hw : ((y1 < y2 → wp_X4_stackRows_200 u0 Qm M) ∧ (y2 ≤ y1 → ((4 < y2 → wp_X4_stackRows_200 u0 Qm M) ∧ (y2 ≤ 4 → (∃ n14 : Nat, wp_X4_stackRows_123 u0 Qm (wp_X4_stackRows_111 u0 Qm n) n14 y1 y2 0 M))))) := hw
    refine lv_iload_n X.1.1 X.1.2.1 dX4_stackRows_111 rfl (lv_at hl 2 rfl) ?_
    refine lv_iload_n X.1.1 X.1.2.1 dX4_stackRows_112 rfl (lv_at hl 1 rfl) ?_
    refine sa_icmp_gt (tgt := 200) X.1 hy2 hy1 dX4_stackRows_113 (by decide) (fun hc => ?_) (fun hc => ?_)
    · have hw := hw.1 hc
      exact t_X4_stackRows_200 X hu0 _ hw _ _ hR hS _ (lv_sub hl [] rfl)
    · have hw := hw.2 hc
      refine lv_iload_n X.1.1 X.1.2.1 dX4_stackRows_116 rfl (lv_at hl 2 rfl) ?_
      refine sa_const X.1 dX4_stackRows_117 ?_
      refine sa_icmp_gt (tgt := 200) X.1 hy2 (inR_c (a := 4) rfl) dX4_stackRows_118 (by decide) (fun hc => ?_) (fun hc => ?_)
      · have hw := hw.1 hc
        exact t_X4_stackRows_200 X hu0 _ hw _ _ hR hS _ (lv_sub hl [] rfl)
      · have hw := hw.2 hc
        refine sa_const X.1 dX4_stackRows_121 ?_
        refine lv_istore_n (lv' := [(3, .int (Int32.ofInt 0)), (0, .ref (α 5 u0)), (1, .int (Int32.ofInt y1)), (2, .int (Int32.ofInt y2))]) X.1.1 X.1.2.1 dX4_stackRows_122 rfl hl (by decide) rfl (fun ls hl => ?_)
        obtain ⟨n14, hw⟩ := hw
        exact t_X4_stackRows_123 X hu0 ih n14 _ _ _ _ hw hy1 hy2 (inR_c (a := 0) rfl) _ _ hR hS _ (lv_sub hl [1, 2, 3, 0] rfl)
set_option maxHeartbeats 4000000 in
set_option maxRecDepth 100000 in
theorem t_X4_stackRows_109 {u0 : Int} (X : CX p m c cX4_stackRows 5 s args RX4 G B κ meth none) (hu0 : okk κ 5 u0) {Qm : Mem → Prop} : ∀ y1 : Int, ∀ M : Mem, wp_X4_stackRows_109 u0 Qm y1 M → inR y1 → ∀ (H : Heap) (locs : List Loc), Rp G e0 α κ B M H → va_S (fun q => B ≤ q) s.heap H locs → ∀ (ls : Array Slot), lv_has ls 5 [(0, .ref (α 5 u0)), (1, .int (Int32.ofInt y1))] → WV p l e 4 s m args below meth c G e0 α κ B Qm H locs 109 ls [] := by
  intro y1 M hw hy1 H locs hR hS ls hl
  have hw : (∃ n15 : Nat, wp_X4_stackRows_111 u0 Qm n15 y1 2 M) := hw
  refine sa_const X.1 dX4_stackRows_109 ?_
  refine lv_istore_n (lv' := [(2, .int (Int32.ofInt 2)), (0, .ref (α 5 u0)), (1, .int (Int32.ofInt y1))]) X.1.1 X.1.2.1 dX4_stackRows_110 rfl hl (by decide) rfl (fun ls hl => ?_)
  obtain ⟨n15, hw⟩ := hw
  exact t_X4_stackRows_111 X hu0 n15 _ _ _ hw hy1 (inR_c (a := 2) rfl) _ _ hR hS _ (lv_sub hl [1, 2, 0] rfl)
set_option maxHeartbeats 4000000 in
set_option maxRecDepth 100000 in
theorem t_X4_stackRows_94 {u0 : Int} (X : CX p m c cX4_stackRows 5 s args RX4 G B κ meth none) (hu0 : okk κ 5 u0) {Qm : Mem → Prop} {K12 : Int → Int → Mem → Prop} (hK12 : ∀ y1 : Int, ∀ y2 : Int, ∀ M : Mem, K12 y1 y2 M → inR y1 → inR y2 → ∀ (H : Heap) (locs : List Loc), Rp G e0 α κ B M H → va_S (fun q => B ≤ q) s.heap H locs → ∀ (ls : Array Slot), lv_has ls 5 [(0, .ref (α 5 u0)), (1, .int (Int32.ofInt y1)), (2, .int (Int32.ofInt y2))] → WV p l e 4 s m args below meth c G e0 α κ B Qm H locs 12 ls []) : ∀ y1 : Int, ∀ y2 : Int, ∀ q3 : Int, ∀ M : Mem, wp_X4_stackRows_94 u0 Qm K12 y1 y2 q3 M → inR y1 → inR y2 → okk κ 1 q3 → ∀ (H : Heap) (locs : List Loc), Rp G e0 α κ B M H → va_S (fun q => B ≤ q) s.heap H locs → ∀ (ls : Array Slot), lv_has ls 5 [(0, .ref (α 5 u0)), (1, .int (Int32.ofInt y1)), (2, .int (Int32.ofInt y2)), (3, .ref (α 1 q3))] → WV p l e 4 s m args below meth c G e0 α κ B Qm H locs 94 ls [] := by
  intro y1 y2 q3 M hw hy1 hy2 hq3 H locs hR hS ls hl
  have hw : (inR (y2 + 1)) ∧ K12 (max y1 (M 1 q3 2)) (y2 + 1) M := hw
  refine lv_iload_n X.1.1 X.1.2.1 dX4_stackRows_94 rfl (lv_at hl 1 rfl) ?_
  refine lv_aload_n X.1.1 X.1.2.1 dX4_stackRows_95 rfl (lv_at hl 3 rfl) ?_
  refine gt_1_2 X hR hq3 kw_992 dX4_stackRows_96 ?_
  have r21 := hR.r 1 q3 2
  refine sa_max (R := rmL 4) X.1 hy1 r21 hl.1 kw_534 kmath_max_s kmath_i kmath_max_c (by decide) (Nat.le_of_ble_eq_true rfl) rm_c dX4_stackRows_99 ?_
  refine lv_istore_n (lv' := [(1, .int (Int32.ofInt (max y1 (M 1 q3 2)))), (0, .ref (α 5 u0)), (2, .int (Int32.ofInt y2)), (3, .ref (α 1 q3))]) X.1.1 X.1.2.1 dX4_stackRows_102 rfl hl (by decide) rfl (fun ls hl => ?_)
  have c22 := hw.1
  have hw := hw.2
  refine lv_iinc (v := Int32.ofInt (y2 + 1)) (lv' := [(2, .int (Int32.ofInt (y2 + 1))), (1, .int (Int32.ofInt (max y1 (M 1 q3 2)))), (0, .ref (α 5 u0)), (3, .ref (α 1 q3))]) X.1.1 X.1.2.1 dX4_stackRows_103 hl (k := 2) rfl (Int32.ofInt_add _ _).symm (by decide) rfl (fun ls hl => ?_)
  refine lv_goto (tgt := 12) X.1.1 X.1.2.1 dX4_stackRows_106 (by decide) ?_
  exact hK12 _ _ _ hw (inR_max hy1 r21) c22 _ _ hR hS _ (lv_sub hl [2, 1, 0] rfl)
set_option maxHeartbeats 4000000 in
set_option maxRecDepth 100000 in
theorem t_X4_stackRows_12 {u0 : Int} (X : CX p m c cX4_stackRows 5 s args RX4 G B κ meth none) (hu0 : okk κ 5 u0) {Qm : Mem → Prop} : ∀ n : Nat, ∀ y1 : Int, ∀ y2 : Int, ∀ M : Mem, wp_X4_stackRows_12 u0 Qm n y1 y2 M → inR y1 → inR y2 → ∀ (H : Heap) (locs : List Loc), Rp G e0 α κ B M H → va_S (fun q => B ≤ q) s.heap H locs → ∀ (ls : Array Slot), lv_has ls 5 [(0, .ref (α 5 u0)), (1, .int (Int32.ofInt y1)), (2, .int (Int32.ofInt y2))] → WV p l e 4 s m args below meth c G e0 α κ B Qm H locs 12 ls [] := by
  intro n
  induction n with
  | zero =>
    intro y1 y2 M hw hy1 hy2 H locs hR hS ls hl
    exact hw.elim
  | succ n ih =>
    intro y1 y2 M hw hy1 hy2 H locs hR hS ls hl
    have hw : (((M 14 0 (-1)) ≤ y2 → wp_X4_stackRows_109 u0 Qm y1 M) ∧ (y2 < (M 14 0 (-1)) → ((100 ≤ y2 → wp_X4_stackRows_109 u0 Qm y1 M) ∧ (y2 < 100 → (0 ≤ y2 ∧ y2 < M 14 0 (-1)) ∧ ((¬ (M 1 (M 14 0 y2) 2) = 1 → wp_X4_stackRows_94 u0 Qm (wp_X4_stackRows_12 u0 Qm n) y1 y2 (M 14 0 y2) M) ∧ ((M 1 (M 14 0 y2) 2) = 1 → ((29 ≤ (M 6 (M 1 (M 14 0 y2) 0) 0) → wp_X4_stackRows_94 u0 Qm (wp_X4_stackRows_12 u0 Qm n) y1 y2 (M 14 0 y2) M) ∧ ((M 6 (M 1 (M 14 0 y2) 0) 0) < 29 → (0 ≤ (M 6 (M 1 (M 14 0 y2) 0) 0) ∧ (M 6 (M 1 (M 14 0 y2) 0) 0) < 29) ∧ (0 ≤ y2 ∧ y2 < 100) ∧ (0 ≤ (M 6 (M 1 (M 14 0 y2) 0) 0) ∧ (M 6 (M 1 (M 14 0 y2) 0) 0) < 29) ∧ ∀ M28 : Mem, M28 = up M 35 u0 (M 6 (M 1 (M 14 0 y2) 0) 0) (max (M 35 u0 (M 6 (M 1 (M 14 0 y2) 0) 0)) (M 34 u0 y2)) → wp_X4_stackRows_94 u0 Qm (wp_X4_stackRows_12 u0 Qm n) y1 y2 (M 14 0 y2) M28)))))))) := hw
    refine lv_iload_n X.1.1 X.1.2.1 dX4_stackRows_12 rfl (lv_at hl 2 rfl) ?_
    refine lv_aload_n X.1.1 X.1.2.1 dX4_stackRows_13 rfl (lv_at hl 0 rfl) ?_
    refine gt_5_0 X hR hu0 kw_191 dX4_stackRows_14 ?_
    refine gt_4_2 X hR (okf X.2.2.1 rfl) kw_119 dX4_stackRows_17 ?_
    refine ls_size (by decide) (by decide) X (kc := 4) rmL_ok rm_c (by decide) hR hS kw_511 hl.1 dX4_stackRows_20 (Nat.le_of_ble_eq_true rfl) (fun H locs hR hS => ?_)
    have r2 := hR.r 14 0 (-1)
    refine sa_icmp_ge (tgt := 109) X.1 hy2 r2 dX4_stackRows_23 (by decide) (fun hc => ?_) (fun hc => ?_)
    · have hw := hw.1 hc
      exact t_X4_stackRows_109 X hu0 _ _ hw hy1 _ _ hR hS _ (lv_sub hl [0, 1] rfl)
    · have hw := hw.2 hc
      refine lv_iload_n X.1.1 X.1.2.1 dX4_stackRows_26 rfl (lv_at hl 2 rfl) ?_
      refine sa_bipush X.1 dX4_stackRows_27 (by decide) ?_
      refine sa_icmp_ge (tgt := 109) X.1 hy2 (inR_c (a := 100) rfl) dX4_stackRows_29 (by decide) (fun hc => ?_) (fun hc => ?_)
      · have hw := hw.1 hc
        exact t_X4_stackRows_109 X hu0 _ _ hw hy1 _ _ hR hS _ (lv_sub hl [0, 1] rfl)
      · have hw := hw.2 hc
        refine lv_aload_n X.1.1 X.1.2.1 dX4_stackRows_32 rfl (lv_at hl 0 rfl) ?_
        refine gt_5_0 X hR hu0 kw_191 dX4_stackRows_33 ?_
        refine gt_4_2 X hR (okf X.2.2.1 rfl) kw_119 dX4_stackRows_36 ?_
        refine lv_iload_n X.1.1 X.1.2.1 dX4_stackRows_39 rfl (lv_at hl 2 rfl) ?_
        have c16 := hw.1
        have hw := hw.2
        refine ls_get (ci := 1) (by decide) (by decide) rfl X c16 (kc := 4) rmL_ok rm_c (by decide) hR hS kw_512 hl.1 dX4_stackRows_40 (Nat.le_of_ble_eq_true rfl) (fun H locs o17 hR hS => ?_)
        refine ck_1 X hR o17 kw_513 dX4_stackRows_43 ?_
        refine lv_astore_n (lv' := [(3, .ref (α 1 (M 14 0 y2))), (0, .ref (α 5 u0)), (1, .int (Int32.ofInt y1)), (2, .int (Int32.ofInt y2))]) X.1.1 X.1.2.1 dX4_stackRows_46 rfl hl (by decide) rfl (fun ls hl => ?_)
        refine lv_aload_n X.1.1 X.1.2.1 dX4_stackRows_47 rfl (lv_at hl 0 rfl) ?_
        refine gt_1_0 X hR o17 kw_982 dX4_stackRows_48 ?_
        have o18 := hR.2.2.2.1 _ o17
        refine gt_6_0 X hR o18 kw_888 dX4_stackRows_51 ?_
        have r19 := hR.r 6 (M 1 (M 14 0 y2) 0) 0
        refine lv_istore (lv' := [(4, .int (Int32.ofInt (M 6 (M 1 (M 14 0 y2) 0) 0))), (3, .ref (α 1 (M 14 0 y2))), (0, .ref (α 5 u0)), (1, .int (Int32.ofInt y1)), (2, .int (Int32.ofInt y2))]) X.1.1 X.1.2.1 dX4_stackRows_54 hl (by decide) rfl (fun ls hl => ?_)
        refine lv_aload_n X.1.1 X.1.2.1 dX4_stackRows_56 rfl (lv_at hl 1 rfl) ?_
        refine gt_1_2 X hR o17 kw_992 dX4_stackRows_57 ?_
        have r20 := hR.r 1 (M 14 0 y2) 2
        refine sa_const X.1 dX4_stackRows_60 ?_
        refine sa_icmp_ne (tgt := 94) X.1 r20 (inR_c (a := 1) rfl) dX4_stackRows_61 (by decide) (fun hc => ?_) (fun hc => ?_)
        · have hw := hw.1 hc
          exact t_X4_stackRows_94 X hu0 ih _ _ _ _ hw hy1 hy2 o17 _ _ hR hS _ (lv_sub hl [2, 3, 4, 1] rfl)
        · have hw := hw.2 hc
          refine lv_iload X.1.1 X.1.2.1 dX4_stackRows_64 (lv_at hl 0 rfl) ?_
          refine sa_bipush X.1 dX4_stackRows_66 (by decide) ?_
          refine sa_icmp_ge (tgt := 94) X.1 r19 (inR_c (a := 29) rfl) dX4_stackRows_68 (by decide) (fun hc => ?_) (fun hc => ?_)
          · have hw := hw.1 hc
            exact t_X4_stackRows_94 X hu0 ih _ _ _ _ hw hy1 hy2 o17 _ _ hR hS _ (lv_sub hl [2, 3, 4, 1] rfl)
          · have hw := hw.2 hc
            refine lv_aload_n X.1.1 X.1.2.1 dX4_stackRows_71 rfl (lv_at hl 2 rfl) ?_
            refine gt_5_2 X hR hu0 kw_194 dX4_stackRows_72 ?_
            refine lv_iload X.1.1 X.1.2.1 dX4_stackRows_75 (lv_at hl 0 rfl) ?_
            refine lv_aload_n X.1.1 X.1.2.1 dX4_stackRows_77 rfl (lv_at hl 2 rfl) ?_
            refine gt_5_2 X hR hu0 kw_194 dX4_stackRows_78 ?_
            refine lv_iload X.1.1 X.1.2.1 dX4_stackRows_81 (lv_at hl 0 rfl) ?_
            have c23 := hw.1
            have hw := hw.2
            refine ra_35 X hR (okp X.2.2.1 rfl (pr_5 X.2.2.1 hu0)) c23 dX4_stackRows_83 ?_
            have r24 := hR.r 35 u0 (M 6 (M 1 (M 14 0 y2) 0) 0)
            refine lv_aload_n X.1.1 X.1.2.1 dX4_stackRows_84 rfl (lv_at hl 2 rfl) ?_
            refine gt_5_1 X hR hu0 kw_192 dX4_stackRows_85 ?_
            refine lv_iload_n X.1.1 X.1.2.1 dX4_stackRows_88 rfl (lv_at hl 4 rfl) ?_
            have c25 := hw.1
            have hw := hw.2
            refine ra_34 X hR (okp X.2.2.1 rfl (pr_5 X.2.2.1 hu0)) c25 dX4_stackRows_89 ?_
            have r26 := hR.r 34 u0 y2
            refine sa_max (R := rmL 4) X.1 r24 r26 hl.1 kw_534 kmath_max_s kmath_i kmath_max_c (by decide) (Nat.le_of_ble_eq_true rfl) rm_c dX4_stackRows_90 ?_
            have c27 := hw.1
            have hw := hw.2
            refine wa_35 X hR hS (okp X.2.2.1 rfl (pr_5 X.2.2.1 hu0)) c27 (inR_max r24 r26) dX4_stackRows_93 (fun H locs hR hS => ?_)
            obtain ⟨M28, e29⟩ : ∃ z : Mem, z = up M 35 u0 (M 6 (M 1 (M 14 0 y2) 0) 0) (max (M 35 u0 (M 6 (M 1 (M 14 0 y2) 0) 0)) (M 34 u0 y2)) := ⟨_, rfl⟩
            rw [← e29] at hR
            have hw := hw M28 e29
            exact t_X4_stackRows_94 X hu0 ih _ _ _ _ hw hy1 hy2 o17 _ _ hR hS _ (lv_sub hl [2, 3, 4, 1] rfl)
set_option maxHeartbeats 4000000 in
set_option maxRecDepth 100000 in
theorem t_X4_stackRows {u0 : Int} (X : CX p m c cX4_stackRows 5 s args RX4 G B κ meth none) (hu0 : okk κ 5 u0) {M : Mem} {Qm : Mem → Prop} (hw : wp_X4_stackRows u0 M Qm) (H : Heap) (locs : List Loc) (hR : Rp G e0 α κ B M H) (hS : va_S (fun q => B ≤ q) s.heap H locs) (ls : Array Slot) (hl : lv_has ls 5 [(0, .ref (α 5 u0))]) : WV p l e 4 s m args below meth c G e0 α κ B Qm H locs 0 ls [] := by
  have hw : wp_J7_fill_53178 35 u0 1 M fun (M1 : Mem) => (∃ n30 : Nat, wp_X4_stackRows_12 u0 Qm n30 1 0 M1) := hw
  refine lv_aload_n X.1.1 X.1.2.1 dX4_stackRows_0 rfl (lv_at hl 0 rfl) ?_
  refine gt_5_2 X hR hu0 kw_194 dX4_stackRows_1 ?_
  refine sa_const X.1 dX4_stackRows_4 ?_
  refine cs_J7_fill_53178 X AI_35 (okp X.2.2.1 rfl (pr_5 X.2.2.1 hu0)) (inR_c (a := 1) rfl) (kc := 4) rmL_ok rm_c (by decide) hR hS kw_533 hl.1 dX4_stackRows_5 (Nat.le_of_ble_eq_true rfl) hw (fun M1 H locs hw hR hS => ?_)
  refine sa_const X.1 dX4_stackRows_8 ?_
  refine lv_istore_n (lv' := [(1, .int (Int32.ofInt 1)), (0, .ref (α 5 u0))]) X.1.1 X.1.2.1 dX4_stackRows_9 rfl hl (by decide) rfl (fun ls hl => ?_)
  refine sa_const X.1 dX4_stackRows_10 ?_
  refine lv_istore_n (lv' := [(2, .int (Int32.ofInt 0)), (1, .int (Int32.ofInt 1)), (0, .ref (α 5 u0))]) X.1.1 X.1.2.1 dX4_stackRows_11 rfl hl (by decide) rfl (fun ls hl => ?_)
  obtain ⟨n30, hw⟩ := hw
  exact t_X4_stackRows_12 X hu0 n30 _ _ _ hw (inR_c (a := 1) rfl) (inR_c (a := 0) rfl) _ _ hR hS _ (lv_sub hl [2, 1, 0] rfl)
theorem m_X4_stackRows {l : Launch} {G : Gx} {e0 : Nat} {α : Ax} {κ : Nat → Int} {B : Nat} {u0 : Int} (hκ : kOK κ) (hu0 : okk κ 5 u0) {M : Mem} {Qm : Mem → Prop} (hw : wp_X4_stackRows u0 M Qm) : CV l yX4_stackRows (Cond.code yX4_stackRows cX4_stackRows 5 none) 4 G e0 α κ B [.ref (α 5 u0)] M Qm :=
  CV.mk hκ (by decide +kernel) rfl (Nat.le_of_ble_eq_true rfl) (lv := [(0, .ref (α 5 u0))]) rfl (fun p e s m args below meth c ls X hR hS hl => t_X4_stackRows X hu0 hw _ _ hR hS ls hl)
theorem cs_X4_stackRows {cc : ByteArray} {nL : Nat} {own : String} {ret : Option FieldType} {idx pc : Nat} {u0 : Int} (X : CX p m c cc nL s args own G B κ meth ret) (hu0 : okk κ 5 u0) {kc : Nat} {R : Room} {cells slots : Nat} (hRr : RmOK R kc) (hcel : cells ≤ R.cells ∧ slots ≤ R.slots) (hk : 4 + 1 ≤ kc) {M : Mem} {H : Heap} {locs : List Loc} (hR : Rp G e0 α κ B M H) (hS : va_S (fun q => B ≤ q) s.heap H locs) (k1 : Cond.methodLink own idx yX4_stackRows ∈ gw) {ls : Array Slot} (hml : ls.size = nL) {rest : List Value} (hd : decode cc pc = .ok (.invokevirtual idx, 3)) (hrest : (rest.map fun v => v.category).sum ≤ 8) {Q : State → Prop} {Qm : Mem → Prop} (hw : wp_X4_stackRows u0 M Qm) (kk : ∀ (M1 : Mem) (H1 : Heap) (locs1 : List Loc), Qm M1 → Rp G e0 α κ B M1 H1 → va_S (fun q => B ≤ q) s.heap H1 locs1 → W p l e R s m args below meth c H1 locs1 cells slots Q (F0 m (pc + 3) ls (rest))) : W p l e R s m args below meth c H locs cells slots Q (F0 m pc ls (.ref (α 5 u0) :: rest)) :=
  sa_callVV 4 (n := 0) (As := []) (rest := rest) X.1 X.2.1 hR hS (m_X4_stackRows X.2.2.1 hu0 hw) k1 kw_530 kw_531 kw_44 kw_532 ⟨rfl, by decide +kernel, by decide +kernel, by decide +kernel⟩ (rm_ok hRr hk (by decide)) (rc_5 X hR hu0) rfl rfl hrest hml hd hcel kk
def wp_X6_sumUp_134 (u0 : Int) (Qm : Mem → Prop) (M : Mem) : Prop := Qm M
def wp_X6_sumUp_122 (u0 : Int) (Qm : Mem → Prop) (K2 : Int → Mem → Prop) (K69 : Int → Int → Int → Mem → Prop) (y2 : Int) (y3 : Int) (y4 : Int) (M : Mem) : Prop := (inR (y4 + 1)) ∧ K69 y2 y3 (y4 + 1) M
def wp_X6_sumUp_69 (u0 : Int) (Qm : Mem → Prop) (K2 : Int → Mem → Prop) : Nat → Int → Int → Int → Mem → Prop
  | 0 => fun _ _ _ _ => False
  | n + 1 => fun y2 y3 y4 M => ((y3 ≤ y4 → (inR (y2 + 1)) ∧ K2 (y2 + 1) M) ∧ (y4 < y3 → (0 ≤ y4 ∧ y4 < 904) ∧ ((¬ (M 39 u0 y4) = 0 → wp_X6_sumUp_122 u0 Qm K2 (wp_X6_sumUp_69 u0 Qm K2 n) y2 y3 y4 M) ∧ ((M 39 u0 y4) = 0 → (0 ≤ y4 ∧ y4 < 904) ∧ wp_X3_isBodyRow (M 38 u0 y4) M fun (x15 : Int) (M14 : Mem) => ((x15 = 0 → wp_X6_sumUp_122 u0 Qm K2 (wp_X6_sumUp_69 u0 Qm K2 n) y2 y3 y4 M14) ∧ (¬ x15 = 0 → (0 ≤ y4 ∧ y4 < 904) ∧ (0 ≤ (M14 38 u0 y4) ∧ (M14 38 u0 y4) < M14 13 0 (-1)) ∧ wp_X6_addFigures u0 (M14 13 0 (M14 38 u0 y4)) y2 M14 fun (M21 : Mem) => wp_X6_sumUp_122 u0 Qm K2 (wp_X6_sumUp_69 u0 Qm K2 n) y2 y3 y4 M21))))))
def wp_X6_sumUp_19 (u0 : Int) (Qm : Mem → Prop) (K2 : Int → Mem → Prop) : Nat → Int → Int → Mem → Prop
  | 0 => fun _ _ _ => False
  | n + 1 => fun y2 y3 M => ((6 ≤ y3 → wp_X6_pieceEndOf u0 y2 M fun (x3 : Int) (M2 : Mem) => wp_X6_pieceBeginOf u0 y2 M2 fun (x6 : Int) (M5 : Mem) => (∃ n22 : Nat, wp_X6_sumUp_69 u0 Qm K2 n22 y2 (min x3 904) x6 M5)) ∧ (y3 < 6 → (inR (y2 * 6)) ∧ (inR ((y2 * 6) + y3)) ∧ (inR (y2 - 1)) ∧ wp_X6_carriedOut u0 (y2 - 1) y3 M fun (x27 : Int) (M26 : Mem) => (0 ≤ ((y2 * 6) + y3) ∧ ((y2 * 6) + y3) < 5424) ∧ ∀ M30 : Mem, M30 = up M26 44 u0 ((y2 * 6) + y3) x27 → (inR (y3 + 1)) ∧ wp_X6_sumUp_19 u0 Qm K2 n y2 (y3 + 1) M30))
def wp_X6_sumUp_2 (u0 : Int) (Qm : Mem → Prop) : Nat → Int → Mem → Prop
  | 0 => fun _ _ => False
  | n + 1 => fun y2 M => (((M 7 u0 1) ≤ y2 → wp_X6_sumUp_134 u0 Qm M) ∧ (y2 < (M 7 u0 1) → ((904 ≤ y2 → wp_X6_sumUp_134 u0 Qm M) ∧ (y2 < 904 → (∃ n33 : Nat, wp_X6_sumUp_19 u0 Qm (wp_X6_sumUp_2 u0 Qm n) n33 y2 0 M)))))
def wp_X6_sumUp (u0 : Int) (M : Mem) (Qm : Mem → Prop) : Prop := (∃ n34 : Nat, wp_X6_sumUp_2 u0 Qm n34 0 M)
set_option maxHeartbeats 4000000 in
set_option maxRecDepth 100000 in
theorem t_X6_sumUp_134 {u0 : Int} (X : CX p m c cX6_sumUp 5 s args RX6 G B κ meth none) (hu0 : okk κ 7 u0) {Qm : Mem → Prop} : ∀ M : Mem, wp_X6_sumUp_134 u0 Qm M → ∀ (H : Heap) (locs : List Loc), Rp G e0 α κ B M H → va_S (fun q => B ≤ q) s.heap H locs → ∀ (ls : Array Slot), lv_has ls 5 [] → WV p l e 5 s m args below meth c G e0 α κ B Qm H locs 134 ls [] := by
  intro M hw H locs hR hS ls hl
  have hw : Qm M := hw
  exact sa_vret X.1 X.2.2.2.1 X.2.2.2.2 hR hS hw dX6_sumUp_134
set_option maxHeartbeats 4000000 in
set_option maxRecDepth 100000 in
theorem t_X6_sumUp_122 {u0 : Int} (X : CX p m c cX6_sumUp 5 s args RX6 G B κ meth none) (hu0 : okk κ 7 u0) {Qm : Mem → Prop} {K2 : Int → Mem → Prop} {K69 : Int → Int → Int → Mem → Prop} (hK2 : ∀ y2 : Int, ∀ M : Mem, K2 y2 M → inR y2 → ∀ (H : Heap) (locs : List Loc), Rp G e0 α κ B M H → va_S (fun q => B ≤ q) s.heap H locs → ∀ (ls : Array Slot), lv_has ls 5 [(0, .ref (α 7 u0)), (1, .ref (α 4 0)), (2, .int (Int32.ofInt y2))] → WV p l e 5 s m args below meth c G e0 α κ B Qm H locs 2 ls []) (hK69 : ∀ y2 : Int, ∀ y3 : Int, ∀ y4 : Int, ∀ M : Mem, K69 y2 y3 y4 M → inR y2 → inR y3 → inR y4 → ∀ (H : Heap) (locs : List Loc), Rp G e0 α κ B M H → va_S (fun q => B ≤ q) s.heap H locs → ∀ (ls : Array Slot), lv_has ls 5 [(0, .ref (α 7 u0)), (1, .ref (α 4 0)), (2, .int (Int32.ofInt y2)), (3, .int (Int32.ofInt y3)), (4, .int (Int32.ofInt y4))] → WV p l e 5 s m args below meth c G e0 α κ B Qm H locs 69 ls []) : ∀ y2 : Int, ∀ y3 : Int, ∀ y4 : Int, ∀ M : Mem, wp_X6_sumUp_122 u0 Qm K2 K69 y2 y3 y4 M → inR y2 → inR y3 → inR y4 → ∀ (H : Heap) (locs : List Loc), Rp G e0 α κ B M H → va_S (fun q => B ≤ q) s.heap H locs → ∀ (ls : Array Slot), lv_has ls 5 [(0, .ref (α 7 u0)), (1, .ref (α 4 0)), (2, .int (Int32.ofInt y2)), (3, .int (Int32.ofInt y3)), (4, .int (Int32.ofInt y4))] → WV p l e 5 s m args below meth c G e0 α κ B Qm H locs 122 ls [] := by
  intro y2 y3 y4 M hw hy2 hy3 hy4 H locs hR hS ls hl
  have hw : (inR (y4 + 1)) ∧ K69 y2 y3 (y4 + 1) M := hw
  have c11 := hw.1
  have hw := hw.2
  refine lv_iinc (v := Int32.ofInt (y4 + 1)) (lv' := [(4, .int (Int32.ofInt (y4 + 1))), (0, .ref (α 7 u0)), (1, .ref (α 4 0)), (2, .int (Int32.ofInt y2)), (3, .int (Int32.ofInt y3))]) X.1.1 X.1.2.1 dX6_sumUp_122 hl (k := 4) rfl (Int32.ofInt_add _ _).symm (by decide) rfl (fun ls hl => ?_)
  refine lv_goto (tgt := 69) X.1.1 X.1.2.1 dX6_sumUp_125 (by decide) ?_
  exact hK69 _ _ _ _ hw hy2 hy3 c11 _ _ hR hS _ (lv_sub hl [1, 2, 3, 4, 0] rfl)
set_option maxHeartbeats 4000000 in
set_option maxRecDepth 100000 in
theorem t_X6_sumUp_69 {u0 : Int} (X : CX p m c cX6_sumUp 5 s args RX6 G B κ meth none) (hu0 : okk κ 7 u0) {Qm : Mem → Prop} {K2 : Int → Mem → Prop} (hK2 : ∀ y2 : Int, ∀ M : Mem, K2 y2 M → inR y2 → ∀ (H : Heap) (locs : List Loc), Rp G e0 α κ B M H → va_S (fun q => B ≤ q) s.heap H locs → ∀ (ls : Array Slot), lv_has ls 5 [(0, .ref (α 7 u0)), (1, .ref (α 4 0)), (2, .int (Int32.ofInt y2))] → WV p l e 5 s m args below meth c G e0 α κ B Qm H locs 2 ls []) : ∀ n : Nat, ∀ y2 : Int, ∀ y3 : Int, ∀ y4 : Int, ∀ M : Mem, wp_X6_sumUp_69 u0 Qm K2 n y2 y3 y4 M → inR y2 → inR y3 → inR y4 → ∀ (H : Heap) (locs : List Loc), Rp G e0 α κ B M H → va_S (fun q => B ≤ q) s.heap H locs → ∀ (ls : Array Slot), lv_has ls 5 [(0, .ref (α 7 u0)), (1, .ref (α 4 0)), (2, .int (Int32.ofInt y2)), (3, .int (Int32.ofInt y3)), (4, .int (Int32.ofInt y4))] → WV p l e 5 s m args below meth c G e0 α κ B Qm H locs 69 ls [] := by
  intro n
  induction n with
  | zero =>
    intro y2 y3 y4 M hw hy2 hy3 hy4 H locs hR hS ls hl
    exact hw.elim
  | succ n ih =>
    intro y2 y3 y4 M hw hy2 hy3 hy4 H locs hR hS ls hl
    have hw : ((y3 ≤ y4 → (inR (y2 + 1)) ∧ K2 (y2 + 1) M) ∧ (y4 < y3 → (0 ≤ y4 ∧ y4 < 904) ∧ ((¬ (M 39 u0 y4) = 0 → wp_X6_sumUp_122 u0 Qm K2 (wp_X6_sumUp_69 u0 Qm K2 n) y2 y3 y4 M) ∧ ((M 39 u0 y4) = 0 → (0 ≤ y4 ∧ y4 < 904) ∧ wp_X3_isBodyRow (M 38 u0 y4) M fun (x15 : Int) (M14 : Mem) => ((x15 = 0 → wp_X6_sumUp_122 u0 Qm K2 (wp_X6_sumUp_69 u0 Qm K2 n) y2 y3 y4 M14) ∧ (¬ x15 = 0 → (0 ≤ y4 ∧ y4 < 904) ∧ (0 ≤ (M14 38 u0 y4) ∧ (M14 38 u0 y4) < M14 13 0 (-1)) ∧ wp_X6_addFigures u0 (M14 13 0 (M14 38 u0 y4)) y2 M14 fun (M21 : Mem) => wp_X6_sumUp_122 u0 Qm K2 (wp_X6_sumUp_69 u0 Qm K2 n) y2 y3 y4 M21)))))) := hw
    refine lv_iload X.1.1 X.1.2.1 dX6_sumUp_69 (lv_at hl 4 rfl) ?_
    refine lv_iload_n X.1.1 X.1.2.1 dX6_sumUp_71 rfl (lv_at hl 3 rfl) ?_
    refine sa_icmp_ge (tgt := 128) X.1 hy4 hy3 dX6_sumUp_72 (by decide) (fun hc => ?_) (fun hc => ?_)
    · have hw := hw.1 hc
      have c8 := hw.1
      have hw := hw.2
      refine lv_iinc (v := Int32.ofInt (y2 + 1)) (lv' := [(2, .int (Int32.ofInt (y2 + 1))), (0, .ref (α 7 u0)), (1, .ref (α 4 0)), (3, .int (Int32.ofInt y3)), (4, .int (Int32.ofInt y4))]) X.1.1 X.1.2.1 dX6_sumUp_128 hl (k := 2) rfl (Int32.ofInt_add _ _).symm (by decide) rfl (fun ls hl => ?_)
      refine lv_goto (tgt := 2) X.1.1 X.1.2.1 dX6_sumUp_131 (by decide) ?_
      exact hK2 _ _ hw c8 _ _ hR hS _ (lv_sub hl [1, 2, 0] rfl)
    · have hw := hw.2 hc
      refine lv_aload_n X.1.1 X.1.2.1 dX6_sumUp_75 rfl (lv_at hl 0 rfl) ?_
      refine gt_7_5 X hR hu0 kw_248 dX6_sumUp_76 ?_
      refine lv_iload X.1.1 X.1.2.1 dX6_sumUp_79 (lv_at hl 4 rfl) ?_
      have c9 := hw.1
      have hw := hw.2
      refine ra_39 X hR (okp X.2.2.1 rfl (pr_7 X.2.2.1 hu0)) c9 dX6_sumUp_81 ?_
      have r10 := hR.r 39 u0 y4
      refine sa_if_ne (tgt := 122) X.1 r10 dX6_sumUp_82 (by decide) (fun hc => ?_) (fun hc => ?_)
      · have hw := hw.1 hc
        exact t_X6_sumUp_122 X hu0 hK2 ih _ _ _ _ hw hy2 hy3 hy4 _ _ hR hS _ (lv_sub hl [0, 1, 2, 3, 4] rfl)
      · have hw := hw.2 hc
        refine lv_aload_n X.1.1 X.1.2.1 dX6_sumUp_85 rfl (lv_at hl 1 rfl) ?_
        refine lv_aload_n X.1.1 X.1.2.1 dX6_sumUp_86 rfl (lv_at hl 0 rfl) ?_
        refine gt_7_4 X hR hu0 kw_247 dX6_sumUp_87 ?_
        refine lv_iload X.1.1 X.1.2.1 dX6_sumUp_90 (lv_at hl 4 rfl) ?_
        have c12 := hw.1
        have hw := hw.2
        refine ra_38 X hR (okp X.2.2.1 rfl (pr_7 X.2.2.1 hu0)) c12 dX6_sumUp_92 ?_
        have r13 := hR.r 38 u0 y4
        refine cs_X3_isBodyRow X r13 (kc := 5) rmL_ok rm_c (by decide) hR hS kw_635 hl.1 dX6_sumUp_93 (Nat.le_of_ble_eq_true rfl) hw (fun x15 M14 H locs hw r16 hR hS => ?_)
        refine sa_if_eq (tgt := 122) X.1 r16 dX6_sumUp_96 (by decide) (fun hc => ?_) (fun hc => ?_)
        · have hw := hw.1 hc
          exact t_X6_sumUp_122 X hu0 hK2 ih _ _ _ _ hw hy2 hy3 hy4 _ _ hR hS _ (lv_sub hl [0, 1, 2, 3, 4] rfl)
        · have hw := hw.2 hc
          refine lv_aload_n X.1.1 X.1.2.1 dX6_sumUp_99 rfl (lv_at hl 0 rfl) ?_
          refine lv_aload_n X.1.1 X.1.2.1 dX6_sumUp_100 rfl (lv_at hl 1 rfl) ?_
          refine gt_4_1 X hR (okf X.2.2.1 rfl) kw_117 dX6_sumUp_101 ?_
          refine lv_aload_n X.1.1 X.1.2.1 dX6_sumUp_104 rfl (lv_at hl 0 rfl) ?_
          refine gt_7_4 X hR hu0 kw_247 dX6_sumUp_105 ?_
          refine lv_iload X.1.1 X.1.2.1 dX6_sumUp_108 (lv_at hl 4 rfl) ?_
          have c17 := hw.1
          have hw := hw.2
          refine ra_38 X hR (okp X.2.2.1 rfl (pr_7 X.2.2.1 hu0)) c17 dX6_sumUp_110 ?_
          have r18 := hR.r 38 u0 y4
          have c19 := hw.1
          have hw := hw.2
          refine ls_get (ci := 6) (by decide) (by decide) rfl X c19 (kc := 5) rmL_ok rm_c (by decide) hR hS kw_643 hl.1 dX6_sumUp_111 (Nat.le_of_ble_eq_true rfl) (fun H locs o20 hR hS => ?_)
          refine ck_6 X hR o20 kw_644 dX6_sumUp_114 ?_
          refine lv_iload_n X.1.1 X.1.2.1 dX6_sumUp_117 rfl (lv_at hl 2 rfl) ?_
          refine lv_aload_n X.1.1 X.1.2.1 dX6_sumUp_118 rfl (lv_at hl 1 rfl) ?_
          refine cs_X6_addFigures X hu0 o20 hy2 (kc := 5) rmL_ok rm_c (by decide) hR hS kw_645 hl.1 dX6_sumUp_119 (Nat.le_of_ble_eq_true rfl) hw (fun M21 H locs hw hR hS => ?_)
          exact t_X6_sumUp_122 X hu0 hK2 ih _ _ _ _ hw hy2 hy3 hy4 _ _ hR hS _ (lv_sub hl [0, 1, 2, 3, 4] rfl)
set_option maxHeartbeats 4000000 in
set_option maxRecDepth 100000 in
theorem t_X6_sumUp_19 {u0 : Int} (X : CX p m c cX6_sumUp 5 s args RX6 G B κ meth none) (hu0 : okk κ 7 u0) {Qm : Mem → Prop} {K2 : Int → Mem → Prop} (hK2 : ∀ y2 : Int, ∀ M : Mem, K2 y2 M → inR y2 → ∀ (H : Heap) (locs : List Loc), Rp G e0 α κ B M H → va_S (fun q => B ≤ q) s.heap H locs → ∀ (ls : Array Slot), lv_has ls 5 [(0, .ref (α 7 u0)), (1, .ref (α 4 0)), (2, .int (Int32.ofInt y2))] → WV p l e 5 s m args below meth c G e0 α κ B Qm H locs 2 ls []) : ∀ n : Nat, ∀ y2 : Int, ∀ y3 : Int, ∀ M : Mem, wp_X6_sumUp_19 u0 Qm K2 n y2 y3 M → inR y2 → inR y3 → ∀ (H : Heap) (locs : List Loc), Rp G e0 α κ B M H → va_S (fun q => B ≤ q) s.heap H locs → ∀ (ls : Array Slot), lv_has ls 5 [(0, .ref (α 7 u0)), (1, .ref (α 4 0)), (2, .int (Int32.ofInt y2)), (3, .int (Int32.ofInt y3))] → WV p l e 5 s m args below meth c G e0 α κ B Qm H locs 19 ls [] := by
  intro n
  induction n with
  | zero =>
    intro y2 y3 M hw hy2 hy3 H locs hR hS ls hl
    exact hw.elim
  | succ n ih =>
    intro y2 y3 M hw hy2 hy3 H locs hR hS ls hl
    have hw : ((6 ≤ y3 → wp_X6_pieceEndOf u0 y2 M fun (x3 : Int) (M2 : Mem) => wp_X6_pieceBeginOf u0 y2 M2 fun (x6 : Int) (M5 : Mem) => (∃ n22 : Nat, wp_X6_sumUp_69 u0 Qm K2 n22 y2 (min x3 904) x6 M5)) ∧ (y3 < 6 → (inR (y2 * 6)) ∧ (inR ((y2 * 6) + y3)) ∧ (inR (y2 - 1)) ∧ wp_X6_carriedOut u0 (y2 - 1) y3 M fun (x27 : Int) (M26 : Mem) => (0 ≤ ((y2 * 6) + y3) ∧ ((y2 * 6) + y3) < 5424) ∧ ∀ M30 : Mem, M30 = up M26 44 u0 ((y2 * 6) + y3) x27 → (inR (y3 + 1)) ∧ wp_X6_sumUp_19 u0 Qm K2 n y2 (y3 + 1) M30)) := hw
    refine lv_iload_n X.1.1 X.1.2.1 dX6_sumUp_19 rfl (lv_at hl 3 rfl) ?_
    refine sa_bipush X.1 dX6_sumUp_20 (by decide) ?_
    refine sa_icmp_ge (tgt := 50) X.1 hy3 (inR_c (a := 6) rfl) dX6_sumUp_22 (by decide) (fun hc => ?_) (fun hc => ?_)
    · have hw := hw.1 hc
      refine lv_aload_n X.1.1 X.1.2.1 dX6_sumUp_50 rfl (lv_at hl 0 rfl) ?_
      refine lv_iload_n X.1.1 X.1.2.1 dX6_sumUp_51 rfl (lv_at hl 2 rfl) ?_
      refine cs_X6_pieceEndOf X hu0 hy2 (kc := 5) rmL_ok rm_c (by decide) hR hS kw_626 hl.1 dX6_sumUp_52 (Nat.le_of_ble_eq_true rfl) hw (fun x3 M2 H locs hw r4 hR hS => ?_)
      refine sa_sipush X.1 dX6_sumUp_55 (by decide) ?_
      refine sa_min (R := rmL 5) X.1 r4 (inR_c (a := 904) rfl) kw_634 hl.1 kmath_min_s kmath_i kmath_min_c (by decide) (Nat.le_of_ble_eq_true rfl) rm_c dX6_sumUp_58 ?_
      refine lv_istore_n (lv' := [(3, .int (Int32.ofInt (min x3 904))), (0, .ref (α 7 u0)), (1, .ref (α 4 0)), (2, .int (Int32.ofInt y2))]) X.1.1 X.1.2.1 dX6_sumUp_61 rfl hl (by decide) rfl (fun ls hl => ?_)
      refine lv_aload_n X.1.1 X.1.2.1 dX6_sumUp_62 rfl (lv_at hl 1 rfl) ?_
      refine lv_iload_n X.1.1 X.1.2.1 dX6_sumUp_63 rfl (lv_at hl 3 rfl) ?_
      refine cs_X6_pieceBeginOf X hu0 hy2 (kc := 5) rmL_ok rm_c (by decide) hR hS kw_630 hl.1 dX6_sumUp_64 (Nat.le_of_ble_eq_true rfl) hw (fun x6 M5 H locs hw r7 hR hS => ?_)
      refine lv_istore (lv' := [(4, .int (Int32.ofInt x6)), (3, .int (Int32.ofInt (min x3 904))), (0, .ref (α 7 u0)), (1, .ref (α 4 0)), (2, .int (Int32.ofInt y2))]) X.1.1 X.1.2.1 dX6_sumUp_67 hl (by decide) rfl (fun ls hl => ?_)
      obtain ⟨n22, hw⟩ := hw
      exact t_X6_sumUp_69 X hu0 hK2 n22 _ _ _ _ hw hy2 (inR_min r4 (inR_c (a := 904) rfl)) r7 _ _ hR hS _ (lv_sub hl [2, 3, 4, 1, 0] rfl)
    · have hw := hw.2 hc
      refine lv_aload_n X.1.1 X.1.2.1 dX6_sumUp_25 rfl (lv_at hl 0 rfl) ?_
      refine gt_7_10 X hR hu0 kw_255 dX6_sumUp_26 ?_
      refine lv_iload_n X.1.1 X.1.2.1 dX6_sumUp_29 rfl (lv_at hl 2 rfl) ?_
      refine sa_bipush X.1 dX6_sumUp_30 (by decide) ?_
      have c23 := hw.1
      have hw := hw.2
      refine sa_imul X.1 dX6_sumUp_32 ?_
      refine lv_iload_n X.1.1 X.1.2.1 dX6_sumUp_33 rfl (lv_at hl 3 rfl) ?_
      have c24 := hw.1
      have hw := hw.2
      refine sa_iadd X.1 dX6_sumUp_34 ?_
      refine lv_aload_n X.1.1 X.1.2.1 dX6_sumUp_35 rfl (lv_at hl 0 rfl) ?_
      refine lv_iload_n X.1.1 X.1.2.1 dX6_sumUp_36 rfl (lv_at hl 2 rfl) ?_
      refine sa_const X.1 dX6_sumUp_37 ?_
      have c25 := hw.1
      have hw := hw.2
      refine sa_isub X.1 dX6_sumUp_38 ?_
      refine lv_iload_n X.1.1 X.1.2.1 dX6_sumUp_39 rfl (lv_at hl 3 rfl) ?_
      refine cs_X6_carriedOut X hu0 c25 hy3 (kc := 5) rmL_ok rm_c (by decide) hR hS kw_618 hl.1 dX6_sumUp_40 (Nat.le_of_ble_eq_true rfl) hw (fun x27 M26 H locs hw r28 hR hS => ?_)
      have c29 := hw.1
      have hw := hw.2
      refine wa_44 X hR hS (okp X.2.2.1 rfl (pr_7 X.2.2.1 hu0)) c29 r28 dX6_sumUp_43 (fun H locs hR hS => ?_)
      obtain ⟨M30, e31⟩ : ∃ z : Mem, z = up M26 44 u0 ((y2 * 6) + y3) x27 := ⟨_, rfl⟩
      rw [← e31] at hR
      have hw := hw M30 e31
      have c32 := hw.1
      have hw := hw.2
      refine lv_iinc (v := Int32.ofInt (y3 + 1)) (lv' := [(3, .int (Int32.ofInt (y3 + 1))), (0, .ref (α 7 u0)), (1, .ref (α 4 0)), (2, .int (Int32.ofInt y2))]) X.1.1 X.1.2.1 dX6_sumUp_44 hl (k := 3) rfl (Int32.ofInt_add _ _).symm (by decide) rfl (fun ls hl => ?_)
      refine lv_goto (tgt := 19) X.1.1 X.1.2.1 dX6_sumUp_47 (by decide) ?_
      exact ih _ _ _ hw hy2 c32 _ _ hR hS _ (lv_sub hl [1, 2, 3, 0] rfl)
set_option maxHeartbeats 4000000 in
set_option maxRecDepth 100000 in
theorem t_X6_sumUp_2 {u0 : Int} (X : CX p m c cX6_sumUp 5 s args RX6 G B κ meth none) (hu0 : okk κ 7 u0) {Qm : Mem → Prop} : ∀ n : Nat, ∀ y2 : Int, ∀ M : Mem, wp_X6_sumUp_2 u0 Qm n y2 M → inR y2 → ∀ (H : Heap) (locs : List Loc), Rp G e0 α κ B M H → va_S (fun q => B ≤ q) s.heap H locs → ∀ (ls : Array Slot), lv_has ls 5 [(0, .ref (α 7 u0)), (1, .ref (α 4 0)), (2, .int (Int32.ofInt y2))] → WV p l e 5 s m args below meth c G e0 α κ B Qm H locs 2 ls [] := by
  intro n
  induction n with
  | zero =>
    intro y2 M hw hy2 H locs hR hS ls hl
    exact hw.elim
  | succ n ih =>
    intro y2 M hw hy2 H locs hR hS ls hl
    have hw : (((M 7 u0 1) ≤ y2 → wp_X6_sumUp_134 u0 Qm M) ∧ (y2 < (M 7 u0 1) → ((904 ≤ y2 → wp_X6_sumUp_134 u0 Qm M) ∧ (y2 < 904 → (∃ n33 : Nat, wp_X6_sumUp_19 u0 Qm (wp_X6_sumUp_2 u0 Qm n) n33 y2 0 M))))) := hw
    refine lv_iload_n X.1.1 X.1.2.1 dX6_sumUp_2 rfl (lv_at hl 2 rfl) ?_
    refine lv_aload_n X.1.1 X.1.2.1 dX6_sumUp_3 rfl (lv_at hl 0 rfl) ?_
    refine gt_7_1 X hR hu0 kw_242 dX6_sumUp_4 ?_
    have r1 := hR.r 7 u0 1
    refine sa_icmp_ge (tgt := 134) X.1 hy2 r1 dX6_sumUp_7 (by decide) (fun hc => ?_) (fun hc => ?_)
    · have hw := hw.1 hc
      exact t_X6_sumUp_134 X hu0 _ hw _ _ hR hS _ (lv_sub hl [] rfl)
    · have hw := hw.2 hc
      refine lv_iload_n X.1.1 X.1.2.1 dX6_sumUp_10 rfl (lv_at hl 2 rfl) ?_
      refine sa_sipush X.1 dX6_sumUp_11 (by decide) ?_
      refine sa_icmp_ge (tgt := 134) X.1 hy2 (inR_c (a := 904) rfl) dX6_sumUp_14 (by decide) (fun hc => ?_) (fun hc => ?_)
      · have hw := hw.1 hc
        exact t_X6_sumUp_134 X hu0 _ hw _ _ hR hS _ (lv_sub hl [] rfl)
      · have hw := hw.2 hc
        refine sa_const X.1 dX6_sumUp_17 ?_
        refine lv_istore_n (lv' := [(3, .int (Int32.ofInt 0)), (0, .ref (α 7 u0)), (1, .ref (α 4 0)), (2, .int (Int32.ofInt y2))]) X.1.1 X.1.2.1 dX6_sumUp_18 rfl hl (by decide) rfl (fun ls hl => ?_)
        obtain ⟨n33, hw⟩ := hw
        exact t_X6_sumUp_19 X hu0 ih n33 _ _ _ hw hy2 (inR_c (a := 0) rfl) _ _ hR hS _ (lv_sub hl [1, 2, 3, 0] rfl)
set_option maxHeartbeats 4000000 in
set_option maxRecDepth 100000 in
theorem t_X6_sumUp {u0 : Int} (X : CX p m c cX6_sumUp 5 s args RX6 G B κ meth none) (hu0 : okk κ 7 u0) {M : Mem} {Qm : Mem → Prop} (hw : wp_X6_sumUp u0 M Qm) (H : Heap) (locs : List Loc) (hR : Rp G e0 α κ B M H) (hS : va_S (fun q => B ≤ q) s.heap H locs) (ls : Array Slot) (hl : lv_has ls 5 [(0, .ref (α 7 u0)), (1, .ref (α 4 0))]) : WV p l e 5 s m args below meth c G e0 α κ B Qm H locs 0 ls [] := by
  have hw : (∃ n34 : Nat, wp_X6_sumUp_2 u0 Qm n34 0 M) := hw
  refine sa_const X.1 dX6_sumUp_0 ?_
  refine lv_istore_n (lv' := [(2, .int (Int32.ofInt 0)), (0, .ref (α 7 u0)), (1, .ref (α 4 0))]) X.1.1 X.1.2.1 dX6_sumUp_1 rfl hl (by decide) rfl (fun ls hl => ?_)
  obtain ⟨n34, hw⟩ := hw
  exact t_X6_sumUp_2 X hu0 n34 _ _ hw (inR_c (a := 0) rfl) _ _ hR hS _ (lv_sub hl [1, 2, 0] rfl)
theorem m_X6_sumUp {l : Launch} {G : Gx} {e0 : Nat} {α : Ax} {κ : Nat → Int} {B : Nat} {u0 : Int} (hκ : kOK κ) (hu0 : okk κ 7 u0) {M : Mem} {Qm : Mem → Prop} (hw : wp_X6_sumUp u0 M Qm) : CV l yX6_sumUp (Cond.code yX6_sumUp cX6_sumUp 5 none) 5 G e0 α κ B [.ref (α 7 u0), .ref (α 4 0)] M Qm :=
  CV.mk hκ (by decide +kernel) rfl (Nat.le_of_ble_eq_true rfl) (lv := [(0, .ref (α 7 u0)), (1, .ref (α 4 0))]) rfl (fun p e s m args below meth c ls X hR hS hl => t_X6_sumUp X hu0 hw _ _ hR hS ls hl)
theorem cs_X6_sumUp {cc : ByteArray} {nL : Nat} {own : String} {ret : Option FieldType} {idx pc : Nat} {u0 : Int} (X : CX p m c cc nL s args own G B κ meth ret) (hu0 : okk κ 7 u0) {kc : Nat} {R : Room} {cells slots : Nat} (hRr : RmOK R kc) (hcel : cells ≤ R.cells ∧ slots ≤ R.slots) (hk : 5 + 1 ≤ kc) {M : Mem} {H : Heap} {locs : List Loc} (hR : Rp G e0 α κ B M H) (hS : va_S (fun q => B ≤ q) s.heap H locs) (k1 : Cond.methodLink own idx yX6_sumUp ∈ gw) {ls : Array Slot} (hml : ls.size = nL) {rest : List Value} (hd : decode cc pc = .ok (.invokevirtual idx, 3)) (hrest : (rest.map fun v => v.category).sum ≤ 8) {Q : State → Prop} {Qm : Mem → Prop} (hw : wp_X6_sumUp u0 M Qm) (kk : ∀ (M1 : Mem) (H1 : Heap) (locs1 : List Loc), Qm M1 → Rp G e0 α κ B M1 H1 → va_S (fun q => B ≤ q) s.heap H1 locs1 → W p l e R s m args below meth c H1 locs1 cells slots Q (F0 m (pc + 3) ls (rest))) : W p l e R s m args below meth c H locs cells slots Q (F0 m pc ls (.ref (α 4 0) :: .ref (α 7 u0) :: rest)) :=
  sa_callVV 5 (n := 1) (As := [.ref (α 4 0)]) (rest := rest) X.1 X.2.1 hR hS (m_X6_sumUp X.2.2.1 hu0 hw) k1 kw_615 kw_616 kw_46 kw_617 ⟨rfl, by decide +kernel, by decide +kernel, by decide +kernel⟩ (rm_ok hRr hk (by decide)) (rc_7 X hR hu0) rfl rfl hrest hml hd hcel kk
def wp_X6_hasSamePage_26 (u0 : Int) (p1 : Int) (u2 : Int) (Qm : Int → Mem → Prop) (M : Mem) : Prop := Qm 0 M
def wp_X6_hasSamePage_96 (u0 : Int) (p1 : Int) (u2 : Int) (Qm : Int → Mem → Prop) (K30 : Int → Mem → Prop) (y3 : Int) (M : Mem) : Prop := (inR (y3 + 1)) ∧ K30 (y3 + 1) M
def wp_X6_hasSamePage_74 (u0 : Int) (p1 : Int) (u2 : Int) (Qm : Int → Mem → Prop) (K30 : Int → Mem → Prop) (y3 : Int) (M : Mem) : Prop := ((¬ (iAnd (iShr (M 7 u0 3) y3) 1) = 1 → wp_X6_hasSamePage_96 u0 p1 u2 Qm K30 y3 M) ∧ ((iAnd (iShr (M 7 u0 3) y3) 1) = 1 → Qm 0 M))
def wp_X6_hasSamePage_30 (u0 : Int) (p1 : Int) (u2 : Int) (Qm : Int → Mem → Prop) : Nat → Int → Mem → Prop
  | 0 => fun _ _ => False
  | n + 1 => fun y3 M => ((6 ≤ y3 → wp_X6_hasSamePieces u0 p1 u2 M fun (x8 : Int) (M7 : Mem) => (bit x8) ∧ Qm x8 M7) ∧ (y3 < 6 → wp_X6_carriedOut u0 p1 y3 M fun (x12 : Int) (M11 : Mem) => wp_X6_carriedOut u2 p1 y3 M11 fun (x15 : Int) (M14 : Mem) => ((¬ x12 = x15 → wp_X6_hasSamePage_74 u0 p1 u2 Qm (wp_X6_hasSamePage_30 u0 p1 u2 Qm n) y3 M14) ∧ (x12 = x15 → (inR (p1 - 1)) ∧ wp_X6_carriedOut u0 (p1 - 1) y3 M14 fun (x21 : Int) (M20 : Mem) => (inR (p1 - 1)) ∧ wp_X6_carriedOut u2 (p1 - 1) y3 M20 fun (x25 : Int) (M24 : Mem) => ((¬ (iAnd (iShr (M24 7 u0 3) y3) 1) = 1 → wp_X6_hasSamePage_96 u0 p1 u2 Qm (wp_X6_hasSamePage_30 u0 p1 u2 Qm n) y3 M24) ∧ ((iAnd (iShr (M24 7 u0 3) y3) 1) = 1 → ((¬ (if ¬ x21 = x25 then (0 : Int) else 1) = 0 → wp_X6_hasSamePage_96 u0 p1 u2 Qm (wp_X6_hasSamePage_30 u0 p1 u2 Qm n) y3 M24) ∧ ((if ¬ x21 = x25 then (0 : Int) else 1) = 0 → Qm 0 M24))))))))
def wp_X6_hasSamePage (u0 : Int) (p1 : Int) (u2 : Int) (M : Mem) (Qm : Int → Mem → Prop) : Prop := (0 ≤ p1 ∧ p1 < 904) ∧ (0 ≤ p1 ∧ p1 < 904) ∧ ((¬ (M 43 u0 p1) = (M 43 u2 p1) → wp_X6_hasSamePage_26 u0 p1 u2 Qm M) ∧ ((M 43 u0 p1) = (M 43 u2 p1) → (((M 7 u0 3) = (M 7 u2 3) → (∃ n31 : Nat, wp_X6_hasSamePage_30 u0 p1 u2 Qm n31 0 M)) ∧ (¬ (M 7 u0 3) = (M 7 u2 3) → wp_X6_hasSamePage_26 u0 p1 u2 Qm M))))
set_option maxHeartbeats 4000000 in
set_option maxRecDepth 100000 in
theorem t_X6_hasSamePage_26 {u0 : Int} {p1 : Int} {u2 : Int} (X : CX p m c cX6_hasSamePage 5 s args RX6 G B κ meth (some .boolean)) (hu0 : okk κ 7 u0) (hp1 : inR p1) (hu2 : okk κ 7 u2) {Qm : Int → Mem → Prop} : ∀ M : Mem, wp_X6_hasSamePage_26 u0 p1 u2 Qm M → ∀ (H : Heap) (locs : List Loc), Rp G e0 α κ B M H → va_S (fun q => B ≤ q) s.heap H locs → ∀ (ls : Array Slot), lv_has ls 5 [] → WI p l e 4 s m args below meth c G e0 α κ B Qm H locs 26 ls [] := by
  intro M hw H locs hR hS ls hl
  have hw : Qm 0 M := hw
  refine sa_const X.1 dX6_hasSamePage_26 ?_
  exact sa_zret X.1 X.2.2.2.1 X.2.2.2.2 hR hS (Or.inl rfl) hw dX6_hasSamePage_27
set_option maxHeartbeats 4000000 in
set_option maxRecDepth 100000 in
theorem t_X6_hasSamePage_96 {u0 : Int} {p1 : Int} {u2 : Int} (X : CX p m c cX6_hasSamePage 5 s args RX6 G B κ meth (some .boolean)) (hu0 : okk κ 7 u0) (hp1 : inR p1) (hu2 : okk κ 7 u2) {Qm : Int → Mem → Prop} {K30 : Int → Mem → Prop} (hK30 : ∀ y3 : Int, ∀ M : Mem, K30 y3 M → inR y3 → ∀ (H : Heap) (locs : List Loc), Rp G e0 α κ B M H → va_S (fun q => B ≤ q) s.heap H locs → ∀ (ls : Array Slot), lv_has ls 5 [(0, .ref (α 7 u0)), (1, .int (Int32.ofInt p1)), (2, .ref (α 7 u2)), (3, .int (Int32.ofInt y3))] → WI p l e 4 s m args below meth c G e0 α κ B Qm H locs 30 ls []) : ∀ y3 : Int, ∀ M : Mem, wp_X6_hasSamePage_96 u0 p1 u2 Qm K30 y3 M → inR y3 → ∀ (H : Heap) (locs : List Loc), Rp G e0 α κ B M H → va_S (fun q => B ≤ q) s.heap H locs → ∀ (ls : Array Slot), lv_has ls 5 [(0, .ref (α 7 u0)), (1, .int (Int32.ofInt p1)), (2, .ref (α 7 u2)), (3, .int (Int32.ofInt y3))] → WI p l e 4 s m args below meth c G e0 α κ B Qm H locs 96 ls [] := by
  intro y3 M hw hy3 H locs hR hS ls hl
  have hw : (inR (y3 + 1)) ∧ K30 (y3 + 1) M := hw
  have c18 := hw.1
  have hw := hw.2
  refine lv_iinc (v := Int32.ofInt (y3 + 1)) (lv' := [(3, .int (Int32.ofInt (y3 + 1))), (0, .ref (α 7 u0)), (1, .int (Int32.ofInt p1)), (2, .ref (α 7 u2))]) X.1.1 X.1.2.1 dX6_hasSamePage_96 hl (k := 3) rfl (Int32.ofInt_add _ _).symm (by decide) rfl (fun ls hl => ?_)
  refine lv_goto (tgt := 30) X.1.1 X.1.2.1 dX6_hasSamePage_99 (by decide) ?_
  exact hK30 _ _ hw c18 _ _ hR hS _ (lv_sub hl [1, 2, 3, 0] rfl)
set_option maxHeartbeats 4000000 in
set_option maxRecDepth 100000 in
theorem t_X6_hasSamePage_74 {u0 : Int} {p1 : Int} {u2 : Int} (X : CX p m c cX6_hasSamePage 5 s args RX6 G B κ meth (some .boolean)) (hu0 : okk κ 7 u0) (hp1 : inR p1) (hu2 : okk κ 7 u2) {Qm : Int → Mem → Prop} {K30 : Int → Mem → Prop} (hK30 : ∀ y3 : Int, ∀ M : Mem, K30 y3 M → inR y3 → ∀ (H : Heap) (locs : List Loc), Rp G e0 α κ B M H → va_S (fun q => B ≤ q) s.heap H locs → ∀ (ls : Array Slot), lv_has ls 5 [(0, .ref (α 7 u0)), (1, .int (Int32.ofInt p1)), (2, .ref (α 7 u2)), (3, .int (Int32.ofInt y3))] → WI p l e 4 s m args below meth c G e0 α κ B Qm H locs 30 ls []) : ∀ y3 : Int, ∀ M : Mem, wp_X6_hasSamePage_74 u0 p1 u2 Qm K30 y3 M → inR y3 → ∀ (H : Heap) (locs : List Loc), Rp G e0 α κ B M H → va_S (fun q => B ≤ q) s.heap H locs → ∀ (ls : Array Slot), lv_has ls 5 [(0, .ref (α 7 u0)), (1, .int (Int32.ofInt p1)), (2, .ref (α 7 u2)), (3, .int (Int32.ofInt y3))] → WI p l e 4 s m args below meth c G e0 α κ B Qm H locs 74 ls [] := by
  intro y3 M hw hy3 H locs hR hS ls hl
  have hw : ((¬ (iAnd (iShr (M 7 u0 3) y3) 1) = 1 → wp_X6_hasSamePage_96 u0 p1 u2 Qm K30 y3 M) ∧ ((iAnd (iShr (M 7 u0 3) y3) 1) = 1 → Qm 0 M)) := hw
  refine sa_const X.1 dX6_hasSamePage_74 ?_
  refine lv_istore (lv' := [(4, .int (Int32.ofInt 0)), (0, .ref (α 7 u0)), (1, .int (Int32.ofInt p1)), (2, .ref (α 7 u2)), (3, .int (Int32.ofInt y3))]) X.1.1 X.1.2.1 dX6_hasSamePage_75 hl (by decide) rfl (fun ls hl => ?_)
  refine lv_aload_n X.1.1 X.1.2.1 dX6_hasSamePage_77 rfl (lv_at hl 1 rfl) ?_
  refine gt_7_3 X hR hu0 kw_246 dX6_hasSamePage_78 ?_
  have r17 := hR.r 7 u0 3
  refine lv_iload_n X.1.1 X.1.2.1 dX6_hasSamePage_81 rfl (lv_at hl 4 rfl) ?_
  refine sa_ishr X.1 dX6_hasSamePage_82 ?_
  refine sa_const X.1 dX6_hasSamePage_83 ?_
  refine sa_iand X.1 dX6_hasSamePage_84 ?_
  refine sa_const X.1 dX6_hasSamePage_85 ?_
  refine sa_icmp_ne (tgt := 96) X.1 (inR_t _) (inR_c (a := 1) rfl) dX6_hasSamePage_86 (by decide) (fun hc => ?_) (fun hc => ?_)
  · have hw := hw.1 hc
    exact t_X6_hasSamePage_96 X hu0 hp1 hu2 hK30 _ _ hw hy3 _ _ hR hS _ (lv_sub hl [1, 2, 3, 4] rfl)
  · have hw := hw.2 hc
    refine lv_iload X.1.1 X.1.2.1 dX6_hasSamePage_89 (lv_at hl 0 rfl) ?_
    refine sa_if_ne (tgt := 96) X.1 (inR_c (a := 0) rfl) dX6_hasSamePage_91 (by decide) (fun hc => absurd hc (by decide)) (fun hc => ?_)
    refine sa_const X.1 dX6_hasSamePage_94 ?_
    exact sa_zret X.1 X.2.2.2.1 X.2.2.2.2 hR hS (Or.inl rfl) hw dX6_hasSamePage_95
set_option maxHeartbeats 4000000 in
set_option maxRecDepth 100000 in
theorem t_X6_hasSamePage_30 {u0 : Int} {p1 : Int} {u2 : Int} (X : CX p m c cX6_hasSamePage 5 s args RX6 G B κ meth (some .boolean)) (hu0 : okk κ 7 u0) (hp1 : inR p1) (hu2 : okk κ 7 u2) {Qm : Int → Mem → Prop} : ∀ n : Nat, ∀ y3 : Int, ∀ M : Mem, wp_X6_hasSamePage_30 u0 p1 u2 Qm n y3 M → inR y3 → ∀ (H : Heap) (locs : List Loc), Rp G e0 α κ B M H → va_S (fun q => B ≤ q) s.heap H locs → ∀ (ls : Array Slot), lv_has ls 5 [(0, .ref (α 7 u0)), (1, .int (Int32.ofInt p1)), (2, .ref (α 7 u2)), (3, .int (Int32.ofInt y3))] → WI p l e 4 s m args below meth c G e0 α κ B Qm H locs 30 ls [] := by
  intro n
  induction n with
  | zero =>
    intro y3 M hw hy3 H locs hR hS ls hl
    exact hw.elim
  | succ n ih =>
    intro y3 M hw hy3 H locs hR hS ls hl
    have hw : ((6 ≤ y3 → wp_X6_hasSamePieces u0 p1 u2 M fun (x8 : Int) (M7 : Mem) => (bit x8) ∧ Qm x8 M7) ∧ (y3 < 6 → wp_X6_carriedOut u0 p1 y3 M fun (x12 : Int) (M11 : Mem) => wp_X6_carriedOut u2 p1 y3 M11 fun (x15 : Int) (M14 : Mem) => ((¬ x12 = x15 → wp_X6_hasSamePage_74 u0 p1 u2 Qm (wp_X6_hasSamePage_30 u0 p1 u2 Qm n) y3 M14) ∧ (x12 = x15 → (inR (p1 - 1)) ∧ wp_X6_carriedOut u0 (p1 - 1) y3 M14 fun (x21 : Int) (M20 : Mem) => (inR (p1 - 1)) ∧ wp_X6_carriedOut u2 (p1 - 1) y3 M20 fun (x25 : Int) (M24 : Mem) => ((¬ (iAnd (iShr (M24 7 u0 3) y3) 1) = 1 → wp_X6_hasSamePage_96 u0 p1 u2 Qm (wp_X6_hasSamePage_30 u0 p1 u2 Qm n) y3 M24) ∧ ((iAnd (iShr (M24 7 u0 3) y3) 1) = 1 → ((¬ (if ¬ x21 = x25 then (0 : Int) else 1) = 0 → wp_X6_hasSamePage_96 u0 p1 u2 Qm (wp_X6_hasSamePage_30 u0 p1 u2 Qm n) y3 M24) ∧ ((if ¬ x21 = x25 then (0 : Int) else 1) = 0 → Qm 0 M24)))))))) := hw
    refine lv_iload_n X.1.1 X.1.2.1 dX6_hasSamePage_30 rfl (lv_at hl 3 rfl) ?_
    refine sa_bipush X.1 dX6_hasSamePage_31 (by decide) ?_
    refine sa_icmp_ge (tgt := 102) X.1 hy3 (inR_c (a := 6) rfl) dX6_hasSamePage_33 (by decide) (fun hc => ?_) (fun hc => ?_)
    · have hw := hw.1 hc
      refine lv_aload_n X.1.1 X.1.2.1 dX6_hasSamePage_102 rfl (lv_at hl 0 rfl) ?_
      refine lv_iload_n X.1.1 X.1.2.1 dX6_hasSamePage_103 rfl (lv_at hl 1 rfl) ?_
      refine lv_aload_n X.1.1 X.1.2.1 dX6_hasSamePage_104 rfl (lv_at hl 2 rfl) ?_
      refine cs_X6_hasSamePieces X hu0 hp1 hu2 (kc := 4) rmL_ok rm_c (by decide) hR hS kw_663 hl.1 dX6_hasSamePage_105 (Nat.le_of_ble_eq_true rfl) hw (fun x8 M7 H locs hw r9 hR hS => ?_)
      have c10 := hw.1
      have hw := hw.2
      exact sa_zret X.1 X.2.2.2.1 X.2.2.2.2 hR hS c10 hw dX6_hasSamePage_108
    · have hw := hw.2 hc
      refine lv_aload_n X.1.1 X.1.2.1 dX6_hasSamePage_36 rfl (lv_at hl 0 rfl) ?_
      refine lv_iload_n X.1.1 X.1.2.1 dX6_hasSamePage_37 rfl (lv_at hl 1 rfl) ?_
      refine lv_iload_n X.1.1 X.1.2.1 dX6_hasSamePage_38 rfl (lv_at hl 3 rfl) ?_
      refine cs_X6_carriedOut X hu0 hp1 hy3 (kc := 4) rmL_ok rm_c (by decide) hR hS kw_618 hl.1 dX6_hasSamePage_39 (Nat.le_of_ble_eq_true rfl) hw (fun x12 M11 H locs hw r13 hR hS => ?_)
      refine lv_aload_n X.1.1 X.1.2.1 dX6_hasSamePage_42 rfl (lv_at hl 2 rfl) ?_
      refine lv_iload_n X.1.1 X.1.2.1 dX6_hasSamePage_43 rfl (lv_at hl 1 rfl) ?_
      refine lv_iload_n X.1.1 X.1.2.1 dX6_hasSamePage_44 rfl (lv_at hl 3 rfl) ?_
      refine cs_X6_carriedOut X hu2 hp1 hy3 (kc := 4) rmL_ok rm_c (by decide) hR hS kw_618 hl.1 dX6_hasSamePage_45 (Nat.le_of_ble_eq_true rfl) hw (fun x15 M14 H locs hw r16 hR hS => ?_)
      refine sa_icmp_ne (tgt := 74) X.1 r13 r16 dX6_hasSamePage_48 (by decide) (fun hc => ?_) (fun hc => ?_)
      · have hw := hw.1 hc
        exact t_X6_hasSamePage_74 X hu0 hp1 hu2 ih _ _ hw hy3 _ _ hR hS _ (lv_sub hl [0, 1, 2, 3] rfl)
      · have hw := hw.2 hc
        refine lv_aload_n X.1.1 X.1.2.1 dX6_hasSamePage_51 rfl (lv_at hl 0 rfl) ?_
        refine lv_iload_n X.1.1 X.1.2.1 dX6_hasSamePage_52 rfl (lv_at hl 1 rfl) ?_
        refine sa_const X.1 dX6_hasSamePage_53 ?_
        have c19 := hw.1
        have hw := hw.2
        refine sa_isub X.1 dX6_hasSamePage_54 ?_
        refine lv_iload_n X.1.1 X.1.2.1 dX6_hasSamePage_55 rfl (lv_at hl 3 rfl) ?_
        refine cs_X6_carriedOut X hu0 c19 hy3 (kc := 4) rmL_ok rm_c (by decide) hR hS kw_618 hl.1 dX6_hasSamePage_56 (Nat.le_of_ble_eq_true rfl) hw (fun x21 M20 H locs hw r22 hR hS => ?_)
        refine lv_aload_n X.1.1 X.1.2.1 dX6_hasSamePage_59 rfl (lv_at hl 2 rfl) ?_
        refine lv_iload_n X.1.1 X.1.2.1 dX6_hasSamePage_60 rfl (lv_at hl 1 rfl) ?_
        refine sa_const X.1 dX6_hasSamePage_61 ?_
        have c23 := hw.1
        have hw := hw.2
        refine sa_isub X.1 dX6_hasSamePage_62 ?_
        refine lv_iload_n X.1.1 X.1.2.1 dX6_hasSamePage_63 rfl (lv_at hl 3 rfl) ?_
        refine cs_X6_carriedOut X hu2 c23 hy3 (kc := 4) rmL_ok rm_c (by decide) hR hS kw_618 hl.1 dX6_hasSamePage_64 (Nat.le_of_ble_eq_true rfl) hw (fun x25 M24 H locs hw r26 hR hS => ?_)
        have r27 := inR_ite (c := ¬ x21 = x25) (inR_c (a := 0) rfl) (inR_c (a := 1) rfl)
        refine cut_j (A := ∀ v28 : Int, v28 = (if ¬ x21 = x25 then (0 : Int) else 1) → WI p l e 4 s m args below meth c G e0 α κ B Qm H locs 75 ls [.int (Int32.ofInt v28)]) (fun J29 => ?_) ?_
        · refine sa_icmp_ne (tgt := 74) X.1 r22 r26 dX6_hasSamePage_67 (by decide) (fun hc => ?_) (fun hc => ?_)
          · skip
            refine sa_const X.1 dX6_hasSamePage_74 ?_
            exact J29 (0) (if_pos (c := ¬ x21 = x25) hc).symm
          · skip
            refine sa_const X.1 dX6_hasSamePage_70 ?_
            refine lv_goto (tgt := 75) X.1.1 X.1.2.1 dX6_hasSamePage_71 (by decide) ?_
            exact J29 (1) (if_neg (c := ¬ x21 = x25) (fun z => z hc)).symm
        intro v28 hv28
        subst hv28
        refine lv_istore (lv' := [(4, .int (Int32.ofInt (if ¬ x21 = x25 then (0 : Int) else 1))), (0, .ref (α 7 u0)), (1, .int (Int32.ofInt p1)), (2, .ref (α 7 u2)), (3, .int (Int32.ofInt y3))]) X.1.1 X.1.2.1 dX6_hasSamePage_75 hl (by decide) rfl (fun ls hl => ?_)
        refine lv_aload_n X.1.1 X.1.2.1 dX6_hasSamePage_77 rfl (lv_at hl 1 rfl) ?_
        refine gt_7_3 X hR hu0 kw_246 dX6_hasSamePage_78 ?_
        have r30 := hR.r 7 u0 3
        refine lv_iload_n X.1.1 X.1.2.1 dX6_hasSamePage_81 rfl (lv_at hl 4 rfl) ?_
        refine sa_ishr X.1 dX6_hasSamePage_82 ?_
        refine sa_const X.1 dX6_hasSamePage_83 ?_
        refine sa_iand X.1 dX6_hasSamePage_84 ?_
        refine sa_const X.1 dX6_hasSamePage_85 ?_
        refine sa_icmp_ne (tgt := 96) X.1 (inR_t _) (inR_c (a := 1) rfl) dX6_hasSamePage_86 (by decide) (fun hc => ?_) (fun hc => ?_)
        · have hw := hw.1 hc
          exact t_X6_hasSamePage_96 X hu0 hp1 hu2 ih _ _ hw hy3 _ _ hR hS _ (lv_sub hl [1, 2, 3, 4] rfl)
        · have hw := hw.2 hc
          refine lv_iload X.1.1 X.1.2.1 dX6_hasSamePage_89 (lv_at hl 0 rfl) ?_
          refine sa_if_ne (tgt := 96) X.1 r27 dX6_hasSamePage_91 (by decide) (fun hc => ?_) (fun hc => ?_)
          · have hw := hw.1 hc
            exact t_X6_hasSamePage_96 X hu0 hp1 hu2 ih _ _ hw hy3 _ _ hR hS _ (lv_sub hl [1, 2, 3, 4] rfl)
          · have hw := hw.2 hc
            refine sa_const X.1 dX6_hasSamePage_94 ?_
            exact sa_zret X.1 X.2.2.2.1 X.2.2.2.2 hR hS (Or.inl rfl) hw dX6_hasSamePage_95
set_option maxHeartbeats 4000000 in
set_option maxRecDepth 100000 in
theorem t_X6_hasSamePage {u0 : Int} {p1 : Int} {u2 : Int} (X : CX p m c cX6_hasSamePage 5 s args RX6 G B κ meth (some .boolean)) (hu0 : okk κ 7 u0) (hp1 : inR p1) (hu2 : okk κ 7 u2) {M : Mem} {Qm : Int → Mem → Prop} (hw : wp_X6_hasSamePage u0 p1 u2 M Qm) (H : Heap) (locs : List Loc) (hR : Rp G e0 α κ B M H) (hS : va_S (fun q => B ≤ q) s.heap H locs) (ls : Array Slot) (hl : lv_has ls 5 [(0, .ref (α 7 u0)), (1, .int (Int32.ofInt p1)), (2, .ref (α 7 u2))]) : WI p l e 4 s m args below meth c G e0 α κ B Qm H locs 0 ls [] := by
  have hw : (0 ≤ p1 ∧ p1 < 904) ∧ (0 ≤ p1 ∧ p1 < 904) ∧ ((¬ (M 43 u0 p1) = (M 43 u2 p1) → wp_X6_hasSamePage_26 u0 p1 u2 Qm M) ∧ ((M 43 u0 p1) = (M 43 u2 p1) → (((M 7 u0 3) = (M 7 u2 3) → (∃ n31 : Nat, wp_X6_hasSamePage_30 u0 p1 u2 Qm n31 0 M)) ∧ (¬ (M 7 u0 3) = (M 7 u2 3) → wp_X6_hasSamePage_26 u0 p1 u2 Qm M)))) := hw
  refine lv_aload_n X.1.1 X.1.2.1 dX6_hasSamePage_0 rfl (lv_at hl 0 rfl) ?_
  refine gt_7_9 X hR hu0 kw_253 dX6_hasSamePage_1 ?_
  refine lv_iload_n X.1.1 X.1.2.1 dX6_hasSamePage_4 rfl (lv_at hl 1 rfl) ?_
  have c1 := hw.1
  have hw := hw.2
  refine ra_43 X hR (okp X.2.2.1 rfl (pr_7 X.2.2.1 hu0)) c1 dX6_hasSamePage_5 ?_
  have r2 := hR.r 43 u0 p1
  refine lv_aload_n X.1.1 X.1.2.1 dX6_hasSamePage_6 rfl (lv_at hl 2 rfl) ?_
  refine gt_7_9 X hR hu2 kw_253 dX6_hasSamePage_7 ?_
  refine lv_iload_n X.1.1 X.1.2.1 dX6_hasSamePage_10 rfl (lv_at hl 1 rfl) ?_
  have c3 := hw.1
  have hw := hw.2
  refine ra_43 X hR (okp X.2.2.1 rfl (pr_7 X.2.2.1 hu2)) c3 dX6_hasSamePage_11 ?_
  have r4 := hR.r 43 u2 p1
  refine sa_icmp_ne (tgt := 26) X.1 r2 r4 dX6_hasSamePage_12 (by decide) (fun hc => ?_) (fun hc => ?_)
  · have hw := hw.1 hc
    exact t_X6_hasSamePage_26 X hu0 hp1 hu2 _ hw _ _ hR hS _ (lv_sub hl [] rfl)
  · have hw := hw.2 hc
    refine lv_aload_n X.1.1 X.1.2.1 dX6_hasSamePage_15 rfl (lv_at hl 0 rfl) ?_
    refine gt_7_3 X hR hu0 kw_246 dX6_hasSamePage_16 ?_
    have r5 := hR.r 7 u0 3
    refine lv_aload_n X.1.1 X.1.2.1 dX6_hasSamePage_19 rfl (lv_at hl 2 rfl) ?_
    refine gt_7_3 X hR hu2 kw_246 dX6_hasSamePage_20 ?_
    have r6 := hR.r 7 u2 3
    refine sa_icmp_eq (tgt := 28) X.1 r5 r6 dX6_hasSamePage_23 (by decide) (fun hc => ?_) (fun hc => ?_)
    · have hw := hw.1 hc
      refine sa_const X.1 dX6_hasSamePage_28 ?_
      refine lv_istore_n (lv' := [(3, .int (Int32.ofInt 0)), (0, .ref (α 7 u0)), (1, .int (Int32.ofInt p1)), (2, .ref (α 7 u2))]) X.1.1 X.1.2.1 dX6_hasSamePage_29 rfl hl (by decide) rfl (fun ls hl => ?_)
      obtain ⟨n31, hw⟩ := hw
      exact t_X6_hasSamePage_30 X hu0 hp1 hu2 n31 _ _ hw (inR_c (a := 0) rfl) _ _ hR hS _ (lv_sub hl [1, 2, 3, 0] rfl)
    · have hw := hw.2 hc
      exact t_X6_hasSamePage_26 X hu0 hp1 hu2 _ hw _ _ hR hS _ (lv_sub hl [] rfl)
theorem m_X6_hasSamePage {l : Launch} {G : Gx} {e0 : Nat} {α : Ax} {κ : Nat → Int} {B : Nat} {u0 : Int} {p1 : Int} {u2 : Int} (hκ : kOK κ) (hu0 : okk κ 7 u0) (hp1 : inR p1) (hu2 : okk κ 7 u2) {M : Mem} {Qm : Int → Mem → Prop} (hw : wp_X6_hasSamePage u0 p1 u2 M Qm) : CI l yX6_hasSamePage (Cond.code yX6_hasSamePage cX6_hasSamePage 5 (some .boolean)) 4 G e0 α κ B [.ref (α 7 u0), .int (Int32.ofInt p1), .ref (α 7 u2)] M Qm :=
  CI.mk hκ (by decide +kernel) rfl (Nat.le_of_ble_eq_true rfl) (lv := [(0, .ref (α 7 u0)), (1, .int (Int32.ofInt p1)), (2, .ref (α 7 u2))]) rfl (fun p e s m args below meth c ls X hR hS hl => t_X6_hasSamePage X hu0 hp1 hu2 hw _ _ hR hS ls hl)
theorem cs_X6_hasSamePage {cc : ByteArray} {nL : Nat} {own : String} {ret : Option FieldType} {idx pc : Nat} {u0 : Int} {p1 : Int} {u2 : Int} (X : CX p m c cc nL s args own G B κ meth ret) (hu0 : okk κ 7 u0) (hp1 : inR p1) (hu2 : okk κ 7 u2) {kc : Nat} {R : Room} {cells slots : Nat} (hRr : RmOK R kc) (hcel : cells ≤ R.cells ∧ slots ≤ R.slots) (hk : 4 + 1 ≤ kc) {M : Mem} {H : Heap} {locs : List Loc} (hR : Rp G e0 α κ B M H) (hS : va_S (fun q => B ≤ q) s.heap H locs) (k1 : Cond.methodLink own idx yX6_hasSamePage ∈ gw) {ls : Array Slot} (hml : ls.size = nL) {rest : List Value} (hd : decode cc pc = .ok (.invokevirtual idx, 3)) (hrest : (rest.map fun v => v.category).sum ≤ 8) {Q : State → Prop} {Qm : Int → Mem → Prop} (hw : wp_X6_hasSamePage u0 p1 u2 M Qm) (kk : ∀ (r : Int) (M1 : Mem) (H1 : Heap) (locs1 : List Loc), Qm r M1 → inR r → Rp G e0 α κ B M1 H1 → va_S (fun q => B ≤ q) s.heap H1 locs1 → W p l e R s m args below meth c H1 locs1 cells slots Q (F0 m (pc + 3) ls (.int (Int32.ofInt r) :: rest))) : W p l e R s m args below meth c H locs cells slots Q (F0 m pc ls (.ref (α 7 u2) :: .int (Int32.ofInt p1) :: .ref (α 7 u0) :: rest)) :=
  sa_callVI 4 (n := 2) (As := [.int (Int32.ofInt p1), .ref (α 7 u2)]) (rest := rest) X.1 X.2.1 hR hS (m_X6_hasSamePage X.2.2.1 hu0 hp1 hu2 hw) k1 kw_661 kw_20 kw_46 kw_662 ⟨rfl, by decide +kernel, by decide +kernel, by decide +kernel⟩ (rm_ok hRr hk (by decide)) (rc_7 X hR hu0) rfl rfl hrest hml hd hcel kk
def wp_X8_clear (u0 : Int) (M : Mem) (Qm : Mem → Prop) : Prop := wp_J7_fill_53178 49 u0 0 M fun (M1 : Mem) => wp_J7_fill_53178 50 u0 0 M1 fun (M2 : Mem) => wp_J7_fill_53178 51 u0 0 M2 fun (M3 : Mem) => wp_J7_fill_53178 52 u0 0 M3 fun (M4 : Mem) => wp_J7_fill_53178 53 u0 0 M4 fun (M5 : Mem) => wp_J7_fill_53178 54 u0 0 M5 fun (M6 : Mem) => wp_J7_fill_53178 55 u0 0 M6 fun (M7 : Mem) => Qm M7
set_option maxHeartbeats 4000000 in
set_option maxRecDepth 100000 in
theorem t_X8_clear {u0 : Int} (X : CX p m c cX8_clear 1 s args RX8 G B κ meth none) (hu0 : okk κ 9 u0) {M : Mem} {Qm : Mem → Prop} (hw : wp_X8_clear u0 M Qm) (H : Heap) (locs : List Loc) (hR : Rp G e0 α κ B M H) (hS : va_S (fun q => B ≤ q) s.heap H locs) (ls : Array Slot) (hl : lv_has ls 1 [(0, .ref (α 9 u0))]) : WV p l e 1 s m args below meth c G e0 α κ B Qm H locs 0 ls [] := by
  have hw : wp_J7_fill_53178 49 u0 0 M fun (M1 : Mem) => wp_J7_fill_53178 50 u0 0 M1 fun (M2 : Mem) => wp_J7_fill_53178 51 u0 0 M2 fun (M3 : Mem) => wp_J7_fill_53178 52 u0 0 M3 fun (M4 : Mem) => wp_J7_fill_53178 53 u0 0 M4 fun (M5 : Mem) => wp_J7_fill_53178 54 u0 0 M5 fun (M6 : Mem) => wp_J7_fill_53178 55 u0 0 M6 fun (M7 : Mem) => Qm M7 := hw
  refine lv_aload_n X.1.1 X.1.2.1 dX8_clear_0 rfl (lv_at hl 0 rfl) ?_
  refine gt_9_1 X hR hu0 kw_156 dX8_clear_1 ?_
  refine sa_const X.1 dX8_clear_4 ?_
  refine cs_J7_fill_53178 X AI_49 (okp X.2.2.1 rfl (pr_9 X.2.2.1 hu0)) (inR_c (a := 0) rfl) (kc := 1) rmL_ok rm_c (by decide) hR hS kw_382 hl.1 dX8_clear_5 (Nat.le_of_ble_eq_true rfl) hw (fun M1 H locs hw hR hS => ?_)
  refine lv_aload_n X.1.1 X.1.2.1 dX8_clear_8 rfl (lv_at hl 0 rfl) ?_
  refine gt_9_2 X hR hu0 kw_158 dX8_clear_9 ?_
  refine sa_const X.1 dX8_clear_12 ?_
  refine cs_J7_fill_53178 X AI_50 (okp X.2.2.1 rfl (pr_9 X.2.2.1 hu0)) (inR_c (a := 0) rfl) (kc := 1) rmL_ok rm_c (by decide) hR hS kw_382 hl.1 dX8_clear_13 (Nat.le_of_ble_eq_true rfl) hw (fun M2 H locs hw hR hS => ?_)
  refine lv_aload_n X.1.1 X.1.2.1 dX8_clear_16 rfl (lv_at hl 0 rfl) ?_
  refine gt_9_3 X hR hu0 kw_160 dX8_clear_17 ?_
  refine sa_const X.1 dX8_clear_20 ?_
  refine cs_J7_fill_53178 X AI_51 (okp X.2.2.1 rfl (pr_9 X.2.2.1 hu0)) (inR_c (a := 0) rfl) (kc := 1) rmL_ok rm_c (by decide) hR hS kw_382 hl.1 dX8_clear_21 (Nat.le_of_ble_eq_true rfl) hw (fun M3 H locs hw hR hS => ?_)
  refine lv_aload_n X.1.1 X.1.2.1 dX8_clear_24 rfl (lv_at hl 0 rfl) ?_
  refine gt_9_4 X hR hu0 kw_163 dX8_clear_25 ?_
  refine sa_const X.1 dX8_clear_28 ?_
  refine cs_J7_fill_53178 X AI_52 (okp X.2.2.1 rfl (pr_9 X.2.2.1 hu0)) (inR_c (a := 0) rfl) (kc := 1) rmL_ok rm_c (by decide) hR hS kw_382 hl.1 dX8_clear_29 (Nat.le_of_ble_eq_true rfl) hw (fun M4 H locs hw hR hS => ?_)
  refine lv_aload_n X.1.1 X.1.2.1 dX8_clear_32 rfl (lv_at hl 0 rfl) ?_
  refine gt_9_5 X hR hu0 kw_164 dX8_clear_33 ?_
  refine sa_const X.1 dX8_clear_36 ?_
  refine cs_J7_fill_53178 X AI_53 (okp X.2.2.1 rfl (pr_9 X.2.2.1 hu0)) (inR_c (a := 0) rfl) (kc := 1) rmL_ok rm_c (by decide) hR hS kw_382 hl.1 dX8_clear_37 (Nat.le_of_ble_eq_true rfl) hw (fun M5 H locs hw hR hS => ?_)
  refine lv_aload_n X.1.1 X.1.2.1 dX8_clear_40 rfl (lv_at hl 0 rfl) ?_
  refine gt_9_6 X hR hu0 kw_165 dX8_clear_41 ?_
  refine sa_const X.1 dX8_clear_44 ?_
  refine cs_J7_fill_53178 X AI_54 (okp X.2.2.1 rfl (pr_9 X.2.2.1 hu0)) (inR_c (a := 0) rfl) (kc := 1) rmL_ok rm_c (by decide) hR hS kw_382 hl.1 dX8_clear_45 (Nat.le_of_ble_eq_true rfl) hw (fun M6 H locs hw hR hS => ?_)
  refine lv_aload_n X.1.1 X.1.2.1 dX8_clear_48 rfl (lv_at hl 0 rfl) ?_
  refine gt_9_7 X hR hu0 kw_166 dX8_clear_49 ?_
  refine sa_const X.1 dX8_clear_52 ?_
  refine cs_J7_fill_53178 X AI_55 (okp X.2.2.1 rfl (pr_9 X.2.2.1 hu0)) (inR_c (a := 0) rfl) (kc := 1) rmL_ok rm_c (by decide) hR hS kw_382 hl.1 dX8_clear_53 (Nat.le_of_ble_eq_true rfl) hw (fun M7 H locs hw hR hS => ?_)
  exact sa_vret X.1 X.2.2.2.1 X.2.2.2.2 hR hS hw dX8_clear_56
theorem m_X8_clear {l : Launch} {G : Gx} {e0 : Nat} {α : Ax} {κ : Nat → Int} {B : Nat} {u0 : Int} (hκ : kOK κ) (hu0 : okk κ 9 u0) {M : Mem} {Qm : Mem → Prop} (hw : wp_X8_clear u0 M Qm) : CV l yX8_clear (Cond.code yX8_clear cX8_clear 1 none) 1 G e0 α κ B [.ref (α 9 u0)] M Qm :=
  CV.mk hκ (by decide +kernel) rfl (Nat.le_of_ble_eq_true rfl) (lv := [(0, .ref (α 9 u0))]) rfl (fun p e s m args below meth c ls X hR hS hl => t_X8_clear X hu0 hw _ _ hR hS ls hl)
theorem cs_X8_clear {cc : ByteArray} {nL : Nat} {own : String} {ret : Option FieldType} {idx pc : Nat} {u0 : Int} (X : CX p m c cc nL s args own G B κ meth ret) (hu0 : okk κ 9 u0) {kc : Nat} {R : Room} {cells slots : Nat} (hRr : RmOK R kc) (hcel : cells ≤ R.cells ∧ slots ≤ R.slots) (hk : 1 + 1 ≤ kc) {M : Mem} {H : Heap} {locs : List Loc} (hR : Rp G e0 α κ B M H) (hS : va_S (fun q => B ≤ q) s.heap H locs) (k1 : Cond.methodLink own idx yX8_clear ∈ gw) {ls : Array Slot} (hml : ls.size = nL) {rest : List Value} (hd : decode cc pc = .ok (.invokevirtual idx, 3)) (hrest : (rest.map fun v => v.category).sum ≤ 8) {Q : State → Prop} {Qm : Mem → Prop} (hw : wp_X8_clear u0 M Qm) (kk : ∀ (M1 : Mem) (H1 : Heap) (locs1 : List Loc), Qm M1 → Rp G e0 α κ B M1 H1 → va_S (fun q => B ≤ q) s.heap H1 locs1 → W p l e R s m args below meth c H1 locs1 cells slots Q (F0 m (pc + 3) ls (rest))) : W p l e R s m args below meth c H locs cells slots Q (F0 m pc ls (.ref (α 9 u0) :: rest)) :=
  sa_callVV 1 (n := 0) (As := []) (rest := rest) X.1 X.2.1 hR hS (m_X8_clear X.2.2.1 hu0 hw) k1 kw_380 kw_1 kw_43 kw_381 ⟨rfl, by decide +kernel, by decide +kernel, by decide +kernel⟩ (rm_ok hRr hk (by decide)) (rc_9 X hR hu0) rfl rfl hrest hml hd hcel kk
def wp_X8_measureSingleColumns_149 (u0 : Int) (Qm : Mem → Prop) (K54 : Int → Mem → Prop) (y1 : Int) (M : Mem) : Prop := (inR (y1 + 1)) ∧ K54 (y1 + 1) M
def wp_X8_measureSingleColumns_100 (u0 : Int) (Qm : Mem → Prop) (K54 : Int → Mem → Prop) (y1 : Int) (q2 : Int) (z0 : Int) (M : Mem) : Prop := ((z0 < 0 → wp_X8_measureSingleColumns_149 u0 Qm K54 y1 M) ∧ (0 ≤ z0 → ((6 ≤ z0 → wp_X8_measureSingleColumns_149 u0 Qm K54 y1 M) ∧ (z0 < 6 → (0 ≤ z0 ∧ z0 < 6) ∧ wp_X0_leastByWords q2 M fun (x9 : Int) (M8 : Mem) => (0 ≤ z0 ∧ z0 < 6) ∧ ∀ M12 : Mem, M12 = up M8 49 u0 z0 (max (M 49 u0 z0) x9) → (0 ≤ z0 ∧ z0 < 6) ∧ wp_X0_mostByWords q2 M12 fun (x17 : Int) (M16 : Mem) => (0 ≤ z0 ∧ z0 < 6) ∧ ∀ M20 : Mem, M20 = up M16 50 u0 z0 (max (M12 50 u0 z0) x17) → wp_X8_measureSingleColumns_149 u0 Qm K54 y1 M20))))
def wp_X8_measureSingleColumns_54 (u0 : Int) (Qm : Mem → Prop) : Nat → Int → Mem → Prop
  | 0 => fun _ _ => False
  | n + 1 => fun y1 M => (((M 14 0 (-1)) ≤ y1 → Qm M) ∧ (y1 < (M 14 0 (-1)) → (0 ≤ y1 ∧ y1 < M 14 0 (-1)) ∧ ((¬ (M 1 (M 14 0 y1) 12) = 1 → wp_X8_measureSingleColumns_100 u0 Qm (wp_X8_measureSingleColumns_54 u0 Qm n) y1 (M 14 0 y1) (-1) M) ∧ ((M 1 (M 14 0 y1) 12) = 1 → wp_X8_lastShownOf u0 (M 14 0 y1) M fun (x23 : Int) (M22 : Mem) => wp_X8_measureSingleColumns_100 u0 Qm (wp_X8_measureSingleColumns_54 u0 Qm n) y1 (M 14 0 y1) x23 M22))))
def wp_X8_measureSingleColumns_2 (u0 : Int) (Qm : Mem → Prop) : Nat → Int → Mem → Prop
  | 0 => fun _ _ => False
  | n + 1 => fun y1 M => ((6 ≤ y1 → (∃ n25 : Nat, wp_X8_measureSingleColumns_54 u0 Qm n25 0 M)) ∧ (y1 < 6 → (0 ≤ y1 ∧ y1 < 6) ∧ (0 ≤ y1 ∧ y1 < 6) ∧ (inR ((M 52 u0 y1) + (M 53 u0 y1))) ∧ (0 ≤ y1 ∧ y1 < 6) ∧ ∀ M32 : Mem, M32 = up M 49 u0 y1 ((M 52 u0 y1) + (M 53 u0 y1)) → (0 ≤ y1 ∧ y1 < 6) ∧ (0 ≤ y1 ∧ y1 < 6) ∧ (inR ((M32 52 u0 y1) + (M32 53 u0 y1))) ∧ (0 ≤ y1 ∧ y1 < 6) ∧ ∀ M40 : Mem, M40 = up M32 50 u0 y1 ((M32 52 u0 y1) + (M32 53 u0 y1)) → (inR (y1 + 1)) ∧ wp_X8_measureSingleColumns_2 u0 Qm n (y1 + 1) M40))
def wp_X8_measureSingleColumns (u0 : Int) (M : Mem) (Qm : Mem → Prop) : Prop := (∃ n43 : Nat, wp_X8_measureSingleColumns_2 u0 Qm n43 0 M)
set_option maxHeartbeats 4000000 in
set_option maxRecDepth 100000 in
theorem t_X8_measureSingleColumns_149 {u0 : Int} (X : CX p m c cX8_measureSingleColumns 4 s args RX8 G B κ meth none) (hu0 : okk κ 9 u0) {Qm : Mem → Prop} {K54 : Int → Mem → Prop} (hK54 : ∀ y1 : Int, ∀ M : Mem, K54 y1 M → inR y1 → ∀ (H : Heap) (locs : List Loc), Rp G e0 α κ B M H → va_S (fun q => B ≤ q) s.heap H locs → ∀ (ls : Array Slot), lv_has ls 4 [(0, .ref (α 9 u0)), (1, .int (Int32.ofInt y1))] → WV p l e 3 s m args below meth c G e0 α κ B Qm H locs 54 ls []) : ∀ y1 : Int, ∀ M : Mem, wp_X8_measureSingleColumns_149 u0 Qm K54 y1 M → inR y1 → ∀ (H : Heap) (locs : List Loc), Rp G e0 α κ B M H → va_S (fun q => B ≤ q) s.heap H locs → ∀ (ls : Array Slot), lv_has ls 4 [(0, .ref (α 9 u0)), (1, .int (Int32.ofInt y1))] → WV p l e 3 s m args below meth c G e0 α κ B Qm H locs 149 ls [] := by
  intro y1 M hw hy1 H locs hR hS ls hl
  have hw : (inR (y1 + 1)) ∧ K54 (y1 + 1) M := hw
  have c5 := hw.1
  have hw := hw.2
  refine lv_iinc (v := Int32.ofInt (y1 + 1)) (lv' := [(1, .int (Int32.ofInt (y1 + 1))), (0, .ref (α 9 u0))]) X.1.1 X.1.2.1 dX8_measureSingleColumns_149 hl (k := 1) rfl (Int32.ofInt_add _ _).symm (by decide) rfl (fun ls hl => ?_)
  refine lv_goto (tgt := 54) X.1.1 X.1.2.1 dX8_measureSingleColumns_152 (by decide) ?_
  exact hK54 _ _ hw c5 _ _ hR hS _ (lv_sub hl [1, 0] rfl)
set_option maxHeartbeats 4000000 in
set_option maxRecDepth 100000 in
theorem t_X8_measureSingleColumns_100 {u0 : Int} (X : CX p m c cX8_measureSingleColumns 4 s args RX8 G B κ meth none) (hu0 : okk κ 9 u0) {Qm : Mem → Prop} {K54 : Int → Mem → Prop} (hK54 : ∀ y1 : Int, ∀ M : Mem, K54 y1 M → inR y1 → ∀ (H : Heap) (locs : List Loc), Rp G e0 α κ B M H → va_S (fun q => B ≤ q) s.heap H locs → ∀ (ls : Array Slot), lv_has ls 4 [(0, .ref (α 9 u0)), (1, .int (Int32.ofInt y1))] → WV p l e 3 s m args below meth c G e0 α κ B Qm H locs 54 ls []) : ∀ y1 : Int, ∀ q2 : Int, ∀ z0 : Int, ∀ M : Mem, wp_X8_measureSingleColumns_100 u0 Qm K54 y1 q2 z0 M → inR y1 → okk κ 1 q2 → inR z0 → ∀ (H : Heap) (locs : List Loc), Rp G e0 α κ B M H → va_S (fun q => B ≤ q) s.heap H locs → ∀ (ls : Array Slot), lv_has ls 4 [(0, .ref (α 9 u0)), (1, .int (Int32.ofInt y1)), (2, .ref (α 1 q2))] → WV p l e 3 s m args below meth c G e0 α κ B Qm H locs 100 ls [.int (Int32.ofInt z0)] := by
  intro y1 q2 z0 M hw hy1 hq2 hz0 H locs hR hS ls hl
  have hw : ((z0 < 0 → wp_X8_measureSingleColumns_149 u0 Qm K54 y1 M) ∧ (0 ≤ z0 → ((6 ≤ z0 → wp_X8_measureSingleColumns_149 u0 Qm K54 y1 M) ∧ (z0 < 6 → (0 ≤ z0 ∧ z0 < 6) ∧ wp_X0_leastByWords q2 M fun (x9 : Int) (M8 : Mem) => (0 ≤ z0 ∧ z0 < 6) ∧ ∀ M12 : Mem, M12 = up M8 49 u0 z0 (max (M 49 u0 z0) x9) → (0 ≤ z0 ∧ z0 < 6) ∧ wp_X0_mostByWords q2 M12 fun (x17 : Int) (M16 : Mem) => (0 ≤ z0 ∧ z0 < 6) ∧ ∀ M20 : Mem, M20 = up M16 50 u0 z0 (max (M12 50 u0 z0) x17) → wp_X8_measureSingleColumns_149 u0 Qm K54 y1 M20)))) := hw
  refine lv_istore_n (lv' := [(3, .int (Int32.ofInt z0)), (0, .ref (α 9 u0)), (1, .int (Int32.ofInt y1)), (2, .ref (α 1 q2))]) X.1.1 X.1.2.1 dX8_measureSingleColumns_100 rfl hl (by decide) rfl (fun ls hl => ?_)
  refine lv_iload_n X.1.1 X.1.2.1 dX8_measureSingleColumns_101 rfl (lv_at hl 0 rfl) ?_
  refine sa_if_lt (tgt := 149) X.1 hz0 dX8_measureSingleColumns_102 (by decide) (fun hc => ?_) (fun hc => ?_)
  · have hw := hw.1 hc
    exact t_X8_measureSingleColumns_149 X hu0 hK54 _ _ hw hy1 _ _ hR hS _ (lv_sub hl [1, 2] rfl)
  · have hw := hw.2 hc
    refine lv_iload_n X.1.1 X.1.2.1 dX8_measureSingleColumns_105 rfl (lv_at hl 0 rfl) ?_
    refine sa_bipush X.1 dX8_measureSingleColumns_106 (by decide) ?_
    refine sa_icmp_ge (tgt := 149) X.1 hz0 (inR_c (a := 6) rfl) dX8_measureSingleColumns_108 (by decide) (fun hc => ?_) (fun hc => ?_)
    · have hw := hw.1 hc
      exact t_X8_measureSingleColumns_149 X hu0 hK54 _ _ hw hy1 _ _ hR hS _ (lv_sub hl [1, 2] rfl)
    · have hw := hw.2 hc
      refine lv_aload_n X.1.1 X.1.2.1 dX8_measureSingleColumns_111 rfl (lv_at hl 1 rfl) ?_
      refine gt_9_1 X hR hu0 kw_156 dX8_measureSingleColumns_112 ?_
      refine lv_iload_n X.1.1 X.1.2.1 dX8_measureSingleColumns_115 rfl (lv_at hl 0 rfl) ?_
      refine lv_aload_n X.1.1 X.1.2.1 dX8_measureSingleColumns_116 rfl (lv_at hl 1 rfl) ?_
      refine gt_9_1 X hR hu0 kw_156 dX8_measureSingleColumns_117 ?_
      refine lv_iload_n X.1.1 X.1.2.1 dX8_measureSingleColumns_120 rfl (lv_at hl 0 rfl) ?_
      have c6 := hw.1
      have hw := hw.2
      refine ra_49 X hR (okp X.2.2.1 rfl (pr_9 X.2.2.1 hu0)) c6 dX8_measureSingleColumns_121 ?_
      have r7 := hR.r 49 u0 z0
      refine lv_aload_n X.1.1 X.1.2.1 dX8_measureSingleColumns_122 rfl (lv_at hl 3 rfl) ?_
      refine cs_X0_leastByWords X hq2 (kc := 3) rmL_ok rm_c (by decide) hR hS kw_453 hl.1 dX8_measureSingleColumns_123 (Nat.le_of_ble_eq_true rfl) hw (fun x9 M8 H locs hw r10 hR hS => ?_)
      refine sa_max (R := rmL 3) X.1 r7 r10 hl.1 kw_419 kmath_max_s kmath_i kmath_max_c (by decide) (Nat.le_of_ble_eq_true rfl) rm_c dX8_measureSingleColumns_126 ?_
      have c11 := hw.1
      have hw := hw.2
      refine wa_49 X hR hS (okp X.2.2.1 rfl (pr_9 X.2.2.1 hu0)) c11 (inR_max r7 r10) dX8_measureSingleColumns_129 (fun H locs hR hS => ?_)
      obtain ⟨M12, e13⟩ : ∃ z : Mem, z = up M8 49 u0 z0 (max (M 49 u0 z0) x9) := ⟨_, rfl⟩
      rw [← e13] at hR
      have hw := hw M12 e13
      refine lv_aload_n X.1.1 X.1.2.1 dX8_measureSingleColumns_130 rfl (lv_at hl 1 rfl) ?_
      refine gt_9_2 X hR hu0 kw_158 dX8_measureSingleColumns_131 ?_
      refine lv_iload_n X.1.1 X.1.2.1 dX8_measureSingleColumns_134 rfl (lv_at hl 0 rfl) ?_
      refine lv_aload_n X.1.1 X.1.2.1 dX8_measureSingleColumns_135 rfl (lv_at hl 1 rfl) ?_
      refine gt_9_2 X hR hu0 kw_158 dX8_measureSingleColumns_136 ?_
      refine lv_iload_n X.1.1 X.1.2.1 dX8_measureSingleColumns_139 rfl (lv_at hl 0 rfl) ?_
      have c14 := hw.1
      have hw := hw.2
      refine ra_50 X hR (okp X.2.2.1 rfl (pr_9 X.2.2.1 hu0)) c14 dX8_measureSingleColumns_140 ?_
      have r15 := hR.r 50 u0 z0
      refine lv_aload_n X.1.1 X.1.2.1 dX8_measureSingleColumns_141 rfl (lv_at hl 3 rfl) ?_
      refine cs_X0_mostByWords X hq2 (kc := 3) rmL_ok rm_c (by decide) hR hS kw_458 hl.1 dX8_measureSingleColumns_142 (Nat.le_of_ble_eq_true rfl) hw (fun x17 M16 H locs hw r18 hR hS => ?_)
      refine sa_max (R := rmL 3) X.1 r15 r18 hl.1 kw_419 kmath_max_s kmath_i kmath_max_c (by decide) (Nat.le_of_ble_eq_true rfl) rm_c dX8_measureSingleColumns_145 ?_
      have c19 := hw.1
      have hw := hw.2
      refine wa_50 X hR hS (okp X.2.2.1 rfl (pr_9 X.2.2.1 hu0)) c19 (inR_max r15 r18) dX8_measureSingleColumns_148 (fun H locs hR hS => ?_)
      obtain ⟨M20, e21⟩ : ∃ z : Mem, z = up M16 50 u0 z0 (max (M12 50 u0 z0) x17) := ⟨_, rfl⟩
      rw [← e21] at hR
      have hw := hw M20 e21
      exact t_X8_measureSingleColumns_149 X hu0 hK54 _ _ hw hy1 _ _ hR hS _ (lv_sub hl [1, 2] rfl)
set_option maxHeartbeats 4000000 in
set_option maxRecDepth 100000 in
theorem t_X8_measureSingleColumns_54 {u0 : Int} (X : CX p m c cX8_measureSingleColumns 4 s args RX8 G B κ meth none) (hu0 : okk κ 9 u0) {Qm : Mem → Prop} : ∀ n : Nat, ∀ y1 : Int, ∀ M : Mem, wp_X8_measureSingleColumns_54 u0 Qm n y1 M → inR y1 → ∀ (H : Heap) (locs : List Loc), Rp G e0 α κ B M H → va_S (fun q => B ≤ q) s.heap H locs → ∀ (ls : Array Slot), lv_has ls 4 [(0, .ref (α 9 u0)), (1, .int (Int32.ofInt y1))] → WV p l e 3 s m args below meth c G e0 α κ B Qm H locs 54 ls [] := by
  intro n
  induction n with
  | zero =>
    intro y1 M hw hy1 H locs hR hS ls hl
    exact hw.elim
  | succ n ih =>
    intro y1 M hw hy1 H locs hR hS ls hl
    have hw : (((M 14 0 (-1)) ≤ y1 → Qm M) ∧ (y1 < (M 14 0 (-1)) → (0 ≤ y1 ∧ y1 < M 14 0 (-1)) ∧ ((¬ (M 1 (M 14 0 y1) 12) = 1 → wp_X8_measureSingleColumns_100 u0 Qm (wp_X8_measureSingleColumns_54 u0 Qm n) y1 (M 14 0 y1) (-1) M) ∧ ((M 1 (M 14 0 y1) 12) = 1 → wp_X8_lastShownOf u0 (M 14 0 y1) M fun (x23 : Int) (M22 : Mem) => wp_X8_measureSingleColumns_100 u0 Qm (wp_X8_measureSingleColumns_54 u0 Qm n) y1 (M 14 0 y1) x23 M22)))) := hw
    refine lv_iload_n X.1.1 X.1.2.1 dX8_measureSingleColumns_54 rfl (lv_at hl 1 rfl) ?_
    refine lv_aload_n X.1.1 X.1.2.1 dX8_measureSingleColumns_55 rfl (lv_at hl 0 rfl) ?_
    refine gt_9_0 X hR hu0 kw_155 dX8_measureSingleColumns_56 ?_
    refine gt_4_2 X hR (okf X.2.2.1 rfl) kw_122 dX8_measureSingleColumns_59 ?_
    refine ls_size (by decide) (by decide) X (kc := 3) rmL_ok rm_c (by decide) hR hS kw_389 hl.1 dX8_measureSingleColumns_62 (Nat.le_of_ble_eq_true rfl) (fun H locs hR hS => ?_)
    have r1 := hR.r 14 0 (-1)
    refine sa_icmp_ge (tgt := 155) X.1 hy1 r1 dX8_measureSingleColumns_65 (by decide) (fun hc => ?_) (fun hc => ?_)
    · have hw := hw.1 hc
      exact sa_vret X.1 X.2.2.2.1 X.2.2.2.2 hR hS hw dX8_measureSingleColumns_155
    · have hw := hw.2 hc
      refine lv_aload_n X.1.1 X.1.2.1 dX8_measureSingleColumns_68 rfl (lv_at hl 0 rfl) ?_
      refine gt_9_0 X hR hu0 kw_155 dX8_measureSingleColumns_69 ?_
      refine gt_4_2 X hR (okf X.2.2.1 rfl) kw_122 dX8_measureSingleColumns_72 ?_
      refine lv_iload_n X.1.1 X.1.2.1 dX8_measureSingleColumns_75 rfl (lv_at hl 1 rfl) ?_
      have c2 := hw.1
      have hw := hw.2
      refine ls_get (ci := 1) (by decide) (by decide) rfl X c2 (kc := 3) rmL_ok rm_c (by decide) hR hS kw_393 hl.1 dX8_measureSingleColumns_76 (Nat.le_of_ble_eq_true rfl) (fun H locs o3 hR hS => ?_)
      refine ck_1 X hR o3 kw_407 dX8_measureSingleColumns_79 ?_
      refine lv_astore_n (lv' := [(2, .ref (α 1 (M 14 0 y1))), (0, .ref (α 9 u0)), (1, .int (Int32.ofInt y1))]) X.1.1 X.1.2.1 dX8_measureSingleColumns_82 rfl hl (by decide) rfl (fun ls hl => ?_)
      refine lv_aload_n X.1.1 X.1.2.1 dX8_measureSingleColumns_83 rfl (lv_at hl 0 rfl) ?_
      refine gt_1_12 X hR o3 kw_1017 dX8_measureSingleColumns_84 ?_
      have r4 := hR.r 1 (M 14 0 y1) 12
      refine sa_const X.1 dX8_measureSingleColumns_87 ?_
      refine sa_icmp_ne (tgt := 99) X.1 r4 (inR_c (a := 1) rfl) dX8_measureSingleColumns_88 (by decide) (fun hc => ?_) (fun hc => ?_)
      · have hw := hw.1 hc
        refine sa_const X.1 dX8_measureSingleColumns_99 ?_
        exact t_X8_measureSingleColumns_100 X hu0 ih _ _ _ _ hw hy1 o3 (inR_c (a := -1) rfl) _ _ hR hS _ (lv_sub hl [1, 2, 0] rfl)
      · have hw := hw.2 hc
        refine lv_aload_n X.1.1 X.1.2.1 dX8_measureSingleColumns_91 rfl (lv_at hl 1 rfl) ?_
        refine lv_aload_n X.1.1 X.1.2.1 dX8_measureSingleColumns_92 rfl (lv_at hl 0 rfl) ?_
        refine cs_X8_lastShownOf X hu0 o3 (kc := 3) rmL_ok rm_c (by decide) hR hS kw_448 hl.1 dX8_measureSingleColumns_93 (Nat.le_of_ble_eq_true rfl) hw (fun x23 M22 H locs hw r24 hR hS => ?_)
        refine lv_goto (tgt := 100) X.1.1 X.1.2.1 dX8_measureSingleColumns_96 (by decide) ?_
        exact t_X8_measureSingleColumns_100 X hu0 ih _ _ _ _ hw hy1 o3 r24 _ _ hR hS _ (lv_sub hl [1, 2, 0] rfl)
set_option maxHeartbeats 4000000 in
set_option maxRecDepth 100000 in
theorem t_X8_measureSingleColumns_2 {u0 : Int} (X : CX p m c cX8_measureSingleColumns 4 s args RX8 G B κ meth none) (hu0 : okk κ 9 u0) {Qm : Mem → Prop} : ∀ n : Nat, ∀ y1 : Int, ∀ M : Mem, wp_X8_measureSingleColumns_2 u0 Qm n y1 M → inR y1 → ∀ (H : Heap) (locs : List Loc), Rp G e0 α κ B M H → va_S (fun q => B ≤ q) s.heap H locs → ∀ (ls : Array Slot), lv_has ls 4 [(0, .ref (α 9 u0)), (1, .int (Int32.ofInt y1))] → WV p l e 3 s m args below meth c G e0 α κ B Qm H locs 2 ls [] := by
  intro n
  induction n with
  | zero =>
    intro y1 M hw hy1 H locs hR hS ls hl
    exact hw.elim
  | succ n ih =>
    intro y1 M hw hy1 H locs hR hS ls hl
    have hw : ((6 ≤ y1 → (∃ n25 : Nat, wp_X8_measureSingleColumns_54 u0 Qm n25 0 M)) ∧ (y1 < 6 → (0 ≤ y1 ∧ y1 < 6) ∧ (0 ≤ y1 ∧ y1 < 6) ∧ (inR ((M 52 u0 y1) + (M 53 u0 y1))) ∧ (0 ≤ y1 ∧ y1 < 6) ∧ ∀ M32 : Mem, M32 = up M 49 u0 y1 ((M 52 u0 y1) + (M 53 u0 y1)) → (0 ≤ y1 ∧ y1 < 6) ∧ (0 ≤ y1 ∧ y1 < 6) ∧ (inR ((M32 52 u0 y1) + (M32 53 u0 y1))) ∧ (0 ≤ y1 ∧ y1 < 6) ∧ ∀ M40 : Mem, M40 = up M32 50 u0 y1 ((M32 52 u0 y1) + (M32 53 u0 y1)) → (inR (y1 + 1)) ∧ wp_X8_measureSingleColumns_2 u0 Qm n (y1 + 1) M40)) := hw
    refine lv_iload_n X.1.1 X.1.2.1 dX8_measureSingleColumns_2 rfl (lv_at hl 1 rfl) ?_
    refine sa_bipush X.1 dX8_measureSingleColumns_3 (by decide) ?_
    refine sa_icmp_ge (tgt := 52) X.1 hy1 (inR_c (a := 6) rfl) dX8_measureSingleColumns_5 (by decide) (fun hc => ?_) (fun hc => ?_)
    · have hw := hw.1 hc
      refine sa_const X.1 dX8_measureSingleColumns_52 ?_
      refine lv_istore_n (lv' := [(1, .int (Int32.ofInt 0)), (0, .ref (α 9 u0))]) X.1.1 X.1.2.1 dX8_measureSingleColumns_53 rfl hl (by decide) rfl (fun ls hl => ?_)
      obtain ⟨n25, hw⟩ := hw
      exact t_X8_measureSingleColumns_54 X hu0 n25 _ _ hw (inR_c (a := 0) rfl) _ _ hR hS _ (lv_sub hl [1, 0] rfl)
    · have hw := hw.2 hc
      refine lv_aload_n X.1.1 X.1.2.1 dX8_measureSingleColumns_8 rfl (lv_at hl 0 rfl) ?_
      refine gt_9_1 X hR hu0 kw_156 dX8_measureSingleColumns_9 ?_
      refine lv_iload_n X.1.1 X.1.2.1 dX8_measureSingleColumns_12 rfl (lv_at hl 1 rfl) ?_
      refine lv_aload_n X.1.1 X.1.2.1 dX8_measureSingleColumns_13 rfl (lv_at hl 0 rfl) ?_
      refine gt_9_4 X hR hu0 kw_163 dX8_measureSingleColumns_14 ?_
      refine lv_iload_n X.1.1 X.1.2.1 dX8_measureSingleColumns_17 rfl (lv_at hl 1 rfl) ?_
      have c26 := hw.1
      have hw := hw.2
      refine ra_52 X hR (okp X.2.2.1 rfl (pr_9 X.2.2.1 hu0)) c26 dX8_measureSingleColumns_18 ?_
      have r27 := hR.r 52 u0 y1
      refine lv_aload_n X.1.1 X.1.2.1 dX8_measureSingleColumns_19 rfl (lv_at hl 0 rfl) ?_
      refine gt_9_5 X hR hu0 kw_164 dX8_measureSingleColumns_20 ?_
      refine lv_iload_n X.1.1 X.1.2.1 dX8_measureSingleColumns_23 rfl (lv_at hl 1 rfl) ?_
      have c28 := hw.1
      have hw := hw.2
      refine ra_53 X hR (okp X.2.2.1 rfl (pr_9 X.2.2.1 hu0)) c28 dX8_measureSingleColumns_24 ?_
      have r29 := hR.r 53 u0 y1
      have c30 := hw.1
      have hw := hw.2
      refine sa_iadd X.1 dX8_measureSingleColumns_25 ?_
      have c31 := hw.1
      have hw := hw.2
      refine wa_49 X hR hS (okp X.2.2.1 rfl (pr_9 X.2.2.1 hu0)) c31 c30 dX8_measureSingleColumns_26 (fun H locs hR hS => ?_)
      obtain ⟨M32, e33⟩ : ∃ z : Mem, z = up M 49 u0 y1 ((M 52 u0 y1) + (M 53 u0 y1)) := ⟨_, rfl⟩
      rw [← e33] at hR
      have hw := hw M32 e33
      refine lv_aload_n X.1.1 X.1.2.1 dX8_measureSingleColumns_27 rfl (lv_at hl 0 rfl) ?_
      refine gt_9_2 X hR hu0 kw_158 dX8_measureSingleColumns_28 ?_
      refine lv_iload_n X.1.1 X.1.2.1 dX8_measureSingleColumns_31 rfl (lv_at hl 1 rfl) ?_
      refine lv_aload_n X.1.1 X.1.2.1 dX8_measureSingleColumns_32 rfl (lv_at hl 0 rfl) ?_
      refine gt_9_4 X hR hu0 kw_163 dX8_measureSingleColumns_33 ?_
      refine lv_iload_n X.1.1 X.1.2.1 dX8_measureSingleColumns_36 rfl (lv_at hl 1 rfl) ?_
      have c34 := hw.1
      have hw := hw.2
      refine ra_52 X hR (okp X.2.2.1 rfl (pr_9 X.2.2.1 hu0)) c34 dX8_measureSingleColumns_37 ?_
      have r35 := hR.r 52 u0 y1
      refine lv_aload_n X.1.1 X.1.2.1 dX8_measureSingleColumns_38 rfl (lv_at hl 0 rfl) ?_
      refine gt_9_5 X hR hu0 kw_164 dX8_measureSingleColumns_39 ?_
      refine lv_iload_n X.1.1 X.1.2.1 dX8_measureSingleColumns_42 rfl (lv_at hl 1 rfl) ?_
      have c36 := hw.1
      have hw := hw.2
      refine ra_53 X hR (okp X.2.2.1 rfl (pr_9 X.2.2.1 hu0)) c36 dX8_measureSingleColumns_43 ?_
      have r37 := hR.r 53 u0 y1
      have c38 := hw.1
      have hw := hw.2
      refine sa_iadd X.1 dX8_measureSingleColumns_44 ?_
      have c39 := hw.1
      have hw := hw.2
      refine wa_50 X hR hS (okp X.2.2.1 rfl (pr_9 X.2.2.1 hu0)) c39 c38 dX8_measureSingleColumns_45 (fun H locs hR hS => ?_)
      obtain ⟨M40, e41⟩ : ∃ z : Mem, z = up M32 50 u0 y1 ((M32 52 u0 y1) + (M32 53 u0 y1)) := ⟨_, rfl⟩
      rw [← e41] at hR
      have hw := hw M40 e41
      have c42 := hw.1
      have hw := hw.2
      refine lv_iinc (v := Int32.ofInt (y1 + 1)) (lv' := [(1, .int (Int32.ofInt (y1 + 1))), (0, .ref (α 9 u0))]) X.1.1 X.1.2.1 dX8_measureSingleColumns_46 hl (k := 1) rfl (Int32.ofInt_add _ _).symm (by decide) rfl (fun ls hl => ?_)
      refine lv_goto (tgt := 2) X.1.1 X.1.2.1 dX8_measureSingleColumns_49 (by decide) ?_
      exact ih _ _ hw c42 _ _ hR hS _ (lv_sub hl [1, 0] rfl)
set_option maxHeartbeats 4000000 in
set_option maxRecDepth 100000 in
theorem t_X8_measureSingleColumns {u0 : Int} (X : CX p m c cX8_measureSingleColumns 4 s args RX8 G B κ meth none) (hu0 : okk κ 9 u0) {M : Mem} {Qm : Mem → Prop} (hw : wp_X8_measureSingleColumns u0 M Qm) (H : Heap) (locs : List Loc) (hR : Rp G e0 α κ B M H) (hS : va_S (fun q => B ≤ q) s.heap H locs) (ls : Array Slot) (hl : lv_has ls 4 [(0, .ref (α 9 u0))]) : WV p l e 3 s m args below meth c G e0 α κ B Qm H locs 0 ls [] := by
  have hw : (∃ n43 : Nat, wp_X8_measureSingleColumns_2 u0 Qm n43 0 M) := hw
  refine sa_const X.1 dX8_measureSingleColumns_0 ?_
  refine lv_istore_n (lv' := [(1, .int (Int32.ofInt 0)), (0, .ref (α 9 u0))]) X.1.1 X.1.2.1 dX8_measureSingleColumns_1 rfl hl (by decide) rfl (fun ls hl => ?_)
  obtain ⟨n43, hw⟩ := hw
  exact t_X8_measureSingleColumns_2 X hu0 n43 _ _ hw (inR_c (a := 0) rfl) _ _ hR hS _ (lv_sub hl [1, 0] rfl)
theorem m_X8_measureSingleColumns {l : Launch} {G : Gx} {e0 : Nat} {α : Ax} {κ : Nat → Int} {B : Nat} {u0 : Int} (hκ : kOK κ) (hu0 : okk κ 9 u0) {M : Mem} {Qm : Mem → Prop} (hw : wp_X8_measureSingleColumns u0 M Qm) : CV l yX8_measureSingleColumns (Cond.code yX8_measureSingleColumns cX8_measureSingleColumns 4 none) 3 G e0 α κ B [.ref (α 9 u0)] M Qm :=
  CV.mk hκ (by decide +kernel) rfl (Nat.le_of_ble_eq_true rfl) (lv := [(0, .ref (α 9 u0))]) rfl (fun p e s m args below meth c ls X hR hS hl => t_X8_measureSingleColumns X hu0 hw _ _ hR hS ls hl)
theorem cs_X8_measureSingleColumns {cc : ByteArray} {nL : Nat} {own : String} {ret : Option FieldType} {idx pc : Nat} {u0 : Int} (X : CX p m c cc nL s args own G B κ meth ret) (hu0 : okk κ 9 u0) {kc : Nat} {R : Room} {cells slots : Nat} (hRr : RmOK R kc) (hcel : cells ≤ R.cells ∧ slots ≤ R.slots) (hk : 3 + 1 ≤ kc) {M : Mem} {H : Heap} {locs : List Loc} (hR : Rp G e0 α κ B M H) (hS : va_S (fun q => B ≤ q) s.heap H locs) (k1 : Cond.methodLink own idx yX8_measureSingleColumns ∈ gw) {ls : Array Slot} (hml : ls.size = nL) {rest : List Value} (hd : decode cc pc = .ok (.invokevirtual idx, 3)) (hrest : (rest.map fun v => v.category).sum ≤ 8) {Q : State → Prop} {Qm : Mem → Prop} (hw : wp_X8_measureSingleColumns u0 M Qm) (kk : ∀ (M1 : Mem) (H1 : Heap) (locs1 : List Loc), Qm M1 → Rp G e0 α κ B M1 H1 → va_S (fun q => B ≤ q) s.heap H1 locs1 → W p l e R s m args below meth c H1 locs1 cells slots Q (F0 m (pc + 3) ls (rest))) : W p l e R s m args below meth c H locs cells slots Q (F0 m pc ls (.ref (α 9 u0) :: rest)) :=
  sa_callVV 3 (n := 0) (As := []) (rest := rest) X.1 X.2.1 hR hS (m_X8_measureSingleColumns X.2.2.1 hu0 hw) k1 kw_446 kw_4 kw_43 kw_447 ⟨rfl, by decide +kernel, by decide +kernel, by decide +kernel⟩ (rm_ok hRr hk (by decide)) (rc_9 X hR hu0) rfl rfl hrest hml hd hcel kk
def wp_X8_spreadOverColumns_109 (u0 : Int) (a1 : Nat) (b1 : Int) (p2 : Int) (Qm : Mem → Prop) (K2 : Int → Mem → Prop) (K11 : Int → Int → Mem → Prop) (y3 : Int) (y4 : Int) (M : Mem) : Prop := (inR (y4 + 1)) ∧ K11 y3 (y4 + 1) M
def wp_X8_spreadOverColumns_89 (u0 : Int) (a1 : Nat) (b1 : Int) (p2 : Int) (Qm : Mem → Prop) (K2 : Int → Mem → Prop) (K11 : Int → Int → Mem → Prop) : Nat → Int → Int → Int → Int → Int → Mem → Prop
  | 0 => fun _ _ _ _ _ _ => False
  | n + 1 => fun y3 y4 q5 y7 y8 M => ((y7 ≤ y8 → wp_X8_spreadOverColumns_109 u0 a1 b1 p2 Qm K2 K11 y3 y4 M) ∧ (y8 < y7 → wp_X8_widenOneColumn u0 q5 a1 b1 M fun (M14 : Mem) => (inR (y8 + 1)) ∧ wp_X8_spreadOverColumns_89 u0 a1 b1 p2 Qm K2 K11 n y3 y4 q5 y7 (y8 + 1) M14))
def wp_X8_spreadOverColumns_69 (u0 : Int) (a1 : Nat) (b1 : Int) (p2 : Int) (Qm : Mem → Prop) (K2 : Int → Mem → Prop) (K11 : Int → Int → Mem → Prop) (y3 : Int) (y4 : Int) (q5 : Int) (z0 : Int) (M : Mem) : Prop := wp_X3_widthOfCell q5 a1 b1 M fun (x11 : Int) (M10 : Mem) => (inR (z0 - x11)) ∧ (∃ n16 : Nat, wp_X8_spreadOverColumns_89 u0 a1 b1 p2 Qm K2 K11 n16 y3 y4 q5 (z0 - x11) 0 M10)
def wp_X8_spreadOverColumns_11 (u0 : Int) (a1 : Nat) (b1 : Int) (p2 : Int) (Qm : Mem → Prop) (K2 : Int → Mem → Prop) : Nat → Int → Int → Mem → Prop
  | 0 => fun _ _ _ => False
  | n + 1 => fun y3 y4 M => (((M 14 0 (-1)) ≤ y4 → (inR (y3 + 1)) ∧ K2 (y3 + 1) M) ∧ (y4 < (M 14 0 (-1)) → (0 ≤ y4 ∧ y4 < M 14 0 (-1)) ∧ ((¬ (M 1 (M 14 0 y4) 12) = y3 → wp_X8_spreadOverColumns_109 u0 a1 b1 p2 Qm K2 (wp_X8_spreadOverColumns_11 u0 a1 b1 p2 Qm K2 n) y3 y4 M) ∧ ((M 1 (M 14 0 y4) 12) = y3 → ((p2 = 0 → wp_X0_leastByWords (M 14 0 y4) M fun (x8 : Int) (M7 : Mem) => wp_X8_spreadOverColumns_69 u0 a1 b1 p2 Qm K2 (wp_X8_spreadOverColumns_11 u0 a1 b1 p2 Qm K2 n) y3 y4 (M 14 0 y4) x8 M7) ∧ (¬ p2 = 0 → wp_X0_mostByWords (M 14 0 y4) M fun (x18 : Int) (M17 : Mem) => wp_X8_spreadOverColumns_69 u0 a1 b1 p2 Qm K2 (wp_X8_spreadOverColumns_11 u0 a1 b1 p2 Qm K2 n) y3 y4 (M 14 0 y4) x18 M17))))))
def wp_X8_spreadOverColumns_2 (u0 : Int) (a1 : Nat) (b1 : Int) (p2 : Int) (Qm : Mem → Prop) : Nat → Int → Mem → Prop
  | 0 => fun _ _ => False
  | n + 1 => fun y3 M => ((6 < y3 → Qm M) ∧ (y3 ≤ 6 → (∃ n20 : Nat, wp_X8_spreadOverColumns_11 u0 a1 b1 p2 Qm (wp_X8_spreadOverColumns_2 u0 a1 b1 p2 Qm n) n20 y3 0 M)))
def wp_X8_spreadOverColumns (u0 : Int) (a1 : Nat) (b1 : Int) (p2 : Int) (M : Mem) (Qm : Mem → Prop) : Prop := (∃ n21 : Nat, wp_X8_spreadOverColumns_2 u0 a1 b1 p2 Qm n21 2 M)
set_option maxHeartbeats 4000000 in
set_option maxRecDepth 100000 in
theorem t_X8_spreadOverColumns_109 {u0 : Int} {a1 : Nat} {b1 : Int} {p2 : Int} (X : CX p m c cX8_spreadOverColumns 9 s args RX8 G B κ meth none) (hu0 : okk κ 9 u0) (ha1 : A6 a1) (hoa1 : okk κ a1 b1) (hp2 : inR p2) {Qm : Mem → Prop} {K2 : Int → Mem → Prop} {K11 : Int → Int → Mem → Prop} (hK2 : ∀ y3 : Int, ∀ M : Mem, K2 y3 M → inR y3 → ∀ (H : Heap) (locs : List Loc), Rp G e0 α κ B M H → va_S (fun q => B ≤ q) s.heap H locs → ∀ (ls : Array Slot), lv_has ls 9 [(0, .ref (α 9 u0)), (1, .ref (α a1 b1)), (2, .int (Int32.ofInt p2)), (3, .int (Int32.ofInt y3))] → WV p l e 4 s m args below meth c G e0 α κ B Qm H locs 2 ls []) (hK11 : ∀ y3 : Int, ∀ y4 : Int, ∀ M : Mem, K11 y3 y4 M → inR y3 → inR y4 → ∀ (H : Heap) (locs : List Loc), Rp G e0 α κ B M H → va_S (fun q => B ≤ q) s.heap H locs → ∀ (ls : Array Slot), lv_has ls 9 [(0, .ref (α 9 u0)), (1, .ref (α a1 b1)), (2, .int (Int32.ofInt p2)), (3, .int (Int32.ofInt y3)), (4, .int (Int32.ofInt y4))] → WV p l e 4 s m args below meth c G e0 α κ B Qm H locs 11 ls []) : ∀ y3 : Int, ∀ y4 : Int, ∀ M : Mem, wp_X8_spreadOverColumns_109 u0 a1 b1 p2 Qm K2 K11 y3 y4 M → inR y3 → inR y4 → ∀ (H : Heap) (locs : List Loc), Rp G e0 α κ B M H → va_S (fun q => B ≤ q) s.heap H locs → ∀ (ls : Array Slot), lv_has ls 9 [(0, .ref (α 9 u0)), (1, .ref (α a1 b1)), (2, .int (Int32.ofInt p2)), (3, .int (Int32.ofInt y3)), (4, .int (Int32.ofInt y4))] → WV p l e 4 s m args below meth c G e0 α κ B Qm H locs 109 ls [] := by
  intro y3 y4 M hw hy3 hy4 H locs hR hS ls hl
  have hw : (inR (y4 + 1)) ∧ K11 y3 (y4 + 1) M := hw
  have c6 := hw.1
  have hw := hw.2
  refine lv_iinc (v := Int32.ofInt (y4 + 1)) (lv' := [(4, .int (Int32.ofInt (y4 + 1))), (0, .ref (α 9 u0)), (1, .ref (α a1 b1)), (2, .int (Int32.ofInt p2)), (3, .int (Int32.ofInt y3))]) X.1.1 X.1.2.1 dX8_spreadOverColumns_109 hl (k := 4) rfl (Int32.ofInt_add _ _).symm (by decide) rfl (fun ls hl => ?_)
  refine lv_goto (tgt := 11) X.1.1 X.1.2.1 dX8_spreadOverColumns_112 (by decide) ?_
  exact hK11 _ _ _ hw hy3 c6 _ _ hR hS _ (lv_sub hl [1, 2, 3, 4, 0] rfl)
set_option maxHeartbeats 4000000 in
set_option maxRecDepth 100000 in
theorem t_X8_spreadOverColumns_89 {u0 : Int} {a1 : Nat} {b1 : Int} {p2 : Int} (X : CX p m c cX8_spreadOverColumns 9 s args RX8 G B κ meth none) (hu0 : okk κ 9 u0) (ha1 : A6 a1) (hoa1 : okk κ a1 b1) (hp2 : inR p2) {Qm : Mem → Prop} {K2 : Int → Mem → Prop} {K11 : Int → Int → Mem → Prop} (hK2 : ∀ y3 : Int, ∀ M : Mem, K2 y3 M → inR y3 → ∀ (H : Heap) (locs : List Loc), Rp G e0 α κ B M H → va_S (fun q => B ≤ q) s.heap H locs → ∀ (ls : Array Slot), lv_has ls 9 [(0, .ref (α 9 u0)), (1, .ref (α a1 b1)), (2, .int (Int32.ofInt p2)), (3, .int (Int32.ofInt y3))] → WV p l e 4 s m args below meth c G e0 α κ B Qm H locs 2 ls []) (hK11 : ∀ y3 : Int, ∀ y4 : Int, ∀ M : Mem, K11 y3 y4 M → inR y3 → inR y4 → ∀ (H : Heap) (locs : List Loc), Rp G e0 α κ B M H → va_S (fun q => B ≤ q) s.heap H locs → ∀ (ls : Array Slot), lv_has ls 9 [(0, .ref (α 9 u0)), (1, .ref (α a1 b1)), (2, .int (Int32.ofInt p2)), (3, .int (Int32.ofInt y3)), (4, .int (Int32.ofInt y4))] → WV p l e 4 s m args below meth c G e0 α κ B Qm H locs 11 ls []) : ∀ n : Nat, ∀ y3 : Int, ∀ y4 : Int, ∀ q5 : Int, ∀ y7 : Int, ∀ y8 : Int, ∀ M : Mem, wp_X8_spreadOverColumns_89 u0 a1 b1 p2 Qm K2 K11 n y3 y4 q5 y7 y8 M → inR y3 → inR y4 → okk κ 1 q5 → inR y7 → inR y8 → ∀ (H : Heap) (locs : List Loc), Rp G e0 α κ B M H → va_S (fun q => B ≤ q) s.heap H locs → ∀ (ls : Array Slot), lv_has ls 9 [(0, .ref (α 9 u0)), (1, .ref (α a1 b1)), (2, .int (Int32.ofInt p2)), (3, .int (Int32.ofInt y3)), (4, .int (Int32.ofInt y4)), (5, .ref (α 1 q5)), (7, .int (Int32.ofInt y7)), (8, .int (Int32.ofInt y8))] → WV p l e 4 s m args below meth c G e0 α κ B Qm H locs 89 ls [] := by
  intro n
  induction n with
  | zero =>
    intro y3 y4 q5 y7 y8 M hw hy3 hy4 hq5 hy7 hy8 H locs hR hS ls hl
    exact hw.elim
  | succ n ih =>
    intro y3 y4 q5 y7 y8 M hw hy3 hy4 hq5 hy7 hy8 H locs hR hS ls hl
    have hw : ((y7 ≤ y8 → wp_X8_spreadOverColumns_109 u0 a1 b1 p2 Qm K2 K11 y3 y4 M) ∧ (y8 < y7 → wp_X8_widenOneColumn u0 q5 a1 b1 M fun (M14 : Mem) => (inR (y8 + 1)) ∧ wp_X8_spreadOverColumns_89 u0 a1 b1 p2 Qm K2 K11 n y3 y4 q5 y7 (y8 + 1) M14)) := hw
    refine lv_iload X.1.1 X.1.2.1 dX8_spreadOverColumns_89 (lv_at hl 7 rfl) ?_
    refine lv_iload X.1.1 X.1.2.1 dX8_spreadOverColumns_91 (lv_at hl 6 rfl) ?_
    refine sa_icmp_ge (tgt := 109) X.1 hy8 hy7 dX8_spreadOverColumns_93 (by decide) (fun hc => ?_) (fun hc => ?_)
    · have hw := hw.1 hc
      exact t_X8_spreadOverColumns_109 X hu0 ha1 hoa1 hp2 hK2 hK11 _ _ _ hw hy3 hy4 _ _ hR hS _ (lv_sub hl [0, 1, 2, 3, 4] rfl)
    · have hw := hw.2 hc
      refine lv_aload_n X.1.1 X.1.2.1 dX8_spreadOverColumns_96 rfl (lv_at hl 0 rfl) ?_
      refine lv_aload X.1.1 X.1.2.1 dX8_spreadOverColumns_97 (lv_at hl 5 rfl) ?_
      refine lv_aload_n X.1.1 X.1.2.1 dX8_spreadOverColumns_99 rfl (lv_at hl 1 rfl) ?_
      refine cs_X8_widenOneColumn X hu0 hq5 ha1 hoa1 (kc := 4) rmL_ok rm_c (by decide) hR hS kw_472 hl.1 dX8_spreadOverColumns_100 (Nat.le_of_ble_eq_true rfl) hw (fun M14 H locs hw hR hS => ?_)
      have c15 := hw.1
      have hw := hw.2
      refine lv_iinc (v := Int32.ofInt (y8 + 1)) (lv' := [(8, .int (Int32.ofInt (y8 + 1))), (0, .ref (α 9 u0)), (1, .ref (α a1 b1)), (2, .int (Int32.ofInt p2)), (3, .int (Int32.ofInt y3)), (4, .int (Int32.ofInt y4)), (5, .ref (α 1 q5)), (7, .int (Int32.ofInt y7))]) X.1.1 X.1.2.1 dX8_spreadOverColumns_103 hl (k := 7) rfl (Int32.ofInt_add _ _).symm (by decide) rfl (fun ls hl => ?_)
      refine lv_goto (tgt := 89) X.1.1 X.1.2.1 dX8_spreadOverColumns_106 (by decide) ?_
      exact ih _ _ _ _ _ _ hw hy3 hy4 hq5 hy7 c15 _ _ hR hS _ (lv_sub hl [1, 2, 3, 4, 5, 6, 7, 0] rfl)
set_option maxHeartbeats 4000000 in
set_option maxRecDepth 100000 in
theorem t_X8_spreadOverColumns_69 {u0 : Int} {a1 : Nat} {b1 : Int} {p2 : Int} (X : CX p m c cX8_spreadOverColumns 9 s args RX8 G B κ meth none) (hu0 : okk κ 9 u0) (ha1 : A6 a1) (hoa1 : okk κ a1 b1) (hp2 : inR p2) {Qm : Mem → Prop} {K2 : Int → Mem → Prop} {K11 : Int → Int → Mem → Prop} (hK2 : ∀ y3 : Int, ∀ M : Mem, K2 y3 M → inR y3 → ∀ (H : Heap) (locs : List Loc), Rp G e0 α κ B M H → va_S (fun q => B ≤ q) s.heap H locs → ∀ (ls : Array Slot), lv_has ls 9 [(0, .ref (α 9 u0)), (1, .ref (α a1 b1)), (2, .int (Int32.ofInt p2)), (3, .int (Int32.ofInt y3))] → WV p l e 4 s m args below meth c G e0 α κ B Qm H locs 2 ls []) (hK11 : ∀ y3 : Int, ∀ y4 : Int, ∀ M : Mem, K11 y3 y4 M → inR y3 → inR y4 → ∀ (H : Heap) (locs : List Loc), Rp G e0 α κ B M H → va_S (fun q => B ≤ q) s.heap H locs → ∀ (ls : Array Slot), lv_has ls 9 [(0, .ref (α 9 u0)), (1, .ref (α a1 b1)), (2, .int (Int32.ofInt p2)), (3, .int (Int32.ofInt y3)), (4, .int (Int32.ofInt y4))] → WV p l e 4 s m args below meth c G e0 α κ B Qm H locs 11 ls []) : ∀ y3 : Int, ∀ y4 : Int, ∀ q5 : Int, ∀ z0 : Int, ∀ M : Mem, wp_X8_spreadOverColumns_69 u0 a1 b1 p2 Qm K2 K11 y3 y4 q5 z0 M → inR y3 → inR y4 → okk κ 1 q5 → inR z0 → ∀ (H : Heap) (locs : List Loc), Rp G e0 α κ B M H → va_S (fun q => B ≤ q) s.heap H locs → ∀ (ls : Array Slot), lv_has ls 9 [(0, .ref (α 9 u0)), (1, .ref (α a1 b1)), (2, .int (Int32.ofInt p2)), (3, .int (Int32.ofInt y3)), (4, .int (Int32.ofInt y4)), (5, .ref (α 1 q5))] → WV p l e 4 s m args below meth c G e0 α κ B Qm H locs 69 ls [.int (Int32.ofInt z0)] := by
  intro y3 y4 q5 z0 M hw hy3 hy4 hq5 hz0 H locs hR hS ls hl
  have hw : wp_X3_widthOfCell q5 a1 b1 M fun (x11 : Int) (M10 : Mem) => (inR (z0 - x11)) ∧ (∃ n16 : Nat, wp_X8_spreadOverColumns_89 u0 a1 b1 p2 Qm K2 K11 n16 y3 y4 q5 (z0 - x11) 0 M10) := hw
  refine lv_istore (lv' := [(6, .int (Int32.ofInt z0)), (0, .ref (α 9 u0)), (1, .ref (α a1 b1)), (2, .int (Int32.ofInt p2)), (3, .int (Int32.ofInt y3)), (4, .int (Int32.ofInt y4)), (5, .ref (α 1 q5))]) X.1.1 X.1.2.1 dX8_spreadOverColumns_69 hl (by decide) rfl (fun ls hl => ?_)
  refine lv_iload X.1.1 X.1.2.1 dX8_spreadOverColumns_71 (lv_at hl 0 rfl) ?_
  refine lv_aload_n X.1.1 X.1.2.1 dX8_spreadOverColumns_73 rfl (lv_at hl 1 rfl) ?_
  refine gt_9_0 X hR hu0 kw_155 dX8_spreadOverColumns_74 ?_
  refine lv_aload X.1.1 X.1.2.1 dX8_spreadOverColumns_77 (lv_at hl 6 rfl) ?_
  refine lv_aload_n X.1.1 X.1.2.1 dX8_spreadOverColumns_79 rfl (lv_at hl 2 rfl) ?_
  refine cs_X3_widthOfCell X hq5 ha1 hoa1 (kc := 4) rmL_ok rm_c (by decide) hR hS kw_466 hl.1 dX8_spreadOverColumns_80 (Nat.le_of_ble_eq_true rfl) hw (fun x11 M10 H locs hw r12 hR hS => ?_)
  have c13 := hw.1
  have hw := hw.2
  refine sa_isub X.1 dX8_spreadOverColumns_83 ?_
  refine lv_istore (lv' := [(7, .int (Int32.ofInt (z0 - x11))), (6, .int (Int32.ofInt z0)), (0, .ref (α 9 u0)), (1, .ref (α a1 b1)), (2, .int (Int32.ofInt p2)), (3, .int (Int32.ofInt y3)), (4, .int (Int32.ofInt y4)), (5, .ref (α 1 q5))]) X.1.1 X.1.2.1 dX8_spreadOverColumns_84 hl (by decide) rfl (fun ls hl => ?_)
  refine sa_const X.1 dX8_spreadOverColumns_86 ?_
  refine lv_istore (lv' := [(8, .int (Int32.ofInt 0)), (7, .int (Int32.ofInt (z0 - x11))), (6, .int (Int32.ofInt z0)), (0, .ref (α 9 u0)), (1, .ref (α a1 b1)), (2, .int (Int32.ofInt p2)), (3, .int (Int32.ofInt y3)), (4, .int (Int32.ofInt y4)), (5, .ref (α 1 q5))]) X.1.1 X.1.2.1 dX8_spreadOverColumns_87 hl (by decide) rfl (fun ls hl => ?_)
  obtain ⟨n16, hw⟩ := hw
  exact t_X8_spreadOverColumns_89 X hu0 ha1 hoa1 hp2 hK2 hK11 n16 _ _ _ _ _ _ hw hy3 hy4 hq5 c13 (inR_c (a := 0) rfl) _ _ hR hS _ (lv_sub hl [3, 4, 5, 6, 7, 8, 1, 0] rfl)
set_option maxHeartbeats 4000000 in
set_option maxRecDepth 100000 in
theorem t_X8_spreadOverColumns_11 {u0 : Int} {a1 : Nat} {b1 : Int} {p2 : Int} (X : CX p m c cX8_spreadOverColumns 9 s args RX8 G B κ meth none) (hu0 : okk κ 9 u0) (ha1 : A6 a1) (hoa1 : okk κ a1 b1) (hp2 : inR p2) {Qm : Mem → Prop} {K2 : Int → Mem → Prop} (hK2 : ∀ y3 : Int, ∀ M : Mem, K2 y3 M → inR y3 → ∀ (H : Heap) (locs : List Loc), Rp G e0 α κ B M H → va_S (fun q => B ≤ q) s.heap H locs → ∀ (ls : Array Slot), lv_has ls 9 [(0, .ref (α 9 u0)), (1, .ref (α a1 b1)), (2, .int (Int32.ofInt p2)), (3, .int (Int32.ofInt y3))] → WV p l e 4 s m args below meth c G e0 α κ B Qm H locs 2 ls []) : ∀ n : Nat, ∀ y3 : Int, ∀ y4 : Int, ∀ M : Mem, wp_X8_spreadOverColumns_11 u0 a1 b1 p2 Qm K2 n y3 y4 M → inR y3 → inR y4 → ∀ (H : Heap) (locs : List Loc), Rp G e0 α κ B M H → va_S (fun q => B ≤ q) s.heap H locs → ∀ (ls : Array Slot), lv_has ls 9 [(0, .ref (α 9 u0)), (1, .ref (α a1 b1)), (2, .int (Int32.ofInt p2)), (3, .int (Int32.ofInt y3)), (4, .int (Int32.ofInt y4))] → WV p l e 4 s m args below meth c G e0 α κ B Qm H locs 11 ls [] := by
  intro n
  induction n with
  | zero =>
    intro y3 y4 M hw hy3 hy4 H locs hR hS ls hl
    exact hw.elim
  | succ n ih =>
    intro y3 y4 M hw hy3 hy4 H locs hR hS ls hl
    have hw : (((M 14 0 (-1)) ≤ y4 → (inR (y3 + 1)) ∧ K2 (y3 + 1) M) ∧ (y4 < (M 14 0 (-1)) → (0 ≤ y4 ∧ y4 < M 14 0 (-1)) ∧ ((¬ (M 1 (M 14 0 y4) 12) = y3 → wp_X8_spreadOverColumns_109 u0 a1 b1 p2 Qm K2 (wp_X8_spreadOverColumns_11 u0 a1 b1 p2 Qm K2 n) y3 y4 M) ∧ ((M 1 (M 14 0 y4) 12) = y3 → ((p2 = 0 → wp_X0_leastByWords (M 14 0 y4) M fun (x8 : Int) (M7 : Mem) => wp_X8_spreadOverColumns_69 u0 a1 b1 p2 Qm K2 (wp_X8_spreadOverColumns_11 u0 a1 b1 p2 Qm K2 n) y3 y4 (M 14 0 y4) x8 M7) ∧ (¬ p2 = 0 → wp_X0_mostByWords (M 14 0 y4) M fun (x18 : Int) (M17 : Mem) => wp_X8_spreadOverColumns_69 u0 a1 b1 p2 Qm K2 (wp_X8_spreadOverColumns_11 u0 a1 b1 p2 Qm K2 n) y3 y4 (M 14 0 y4) x18 M17)))))) := hw
    refine lv_iload X.1.1 X.1.2.1 dX8_spreadOverColumns_11 (lv_at hl 4 rfl) ?_
    refine lv_aload_n X.1.1 X.1.2.1 dX8_spreadOverColumns_13 rfl (lv_at hl 0 rfl) ?_
    refine gt_9_0 X hR hu0 kw_155 dX8_spreadOverColumns_14 ?_
    refine gt_4_2 X hR (okf X.2.2.1 rfl) kw_122 dX8_spreadOverColumns_17 ?_
    refine ls_size (by decide) (by decide) X (kc := 4) rmL_ok rm_c (by decide) hR hS kw_389 hl.1 dX8_spreadOverColumns_20 (Nat.le_of_ble_eq_true rfl) (fun H locs hR hS => ?_)
    have r1 := hR.r 14 0 (-1)
    refine sa_icmp_ge (tgt := 115) X.1 hy4 r1 dX8_spreadOverColumns_23 (by decide) (fun hc => ?_) (fun hc => ?_)
    · have hw := hw.1 hc
      have c2 := hw.1
      have hw := hw.2
      refine lv_iinc (v := Int32.ofInt (y3 + 1)) (lv' := [(3, .int (Int32.ofInt (y3 + 1))), (0, .ref (α 9 u0)), (1, .ref (α a1 b1)), (2, .int (Int32.ofInt p2)), (4, .int (Int32.ofInt y4))]) X.1.1 X.1.2.1 dX8_spreadOverColumns_115 hl (k := 3) rfl (Int32.ofInt_add _ _).symm (by decide) rfl (fun ls hl => ?_)
      refine lv_goto (tgt := 2) X.1.1 X.1.2.1 dX8_spreadOverColumns_118 (by decide) ?_
      exact hK2 _ _ hw c2 _ _ hR hS _ (lv_sub hl [1, 2, 3, 0] rfl)
    · have hw := hw.2 hc
      refine lv_aload_n X.1.1 X.1.2.1 dX8_spreadOverColumns_26 rfl (lv_at hl 0 rfl) ?_
      refine gt_9_0 X hR hu0 kw_155 dX8_spreadOverColumns_27 ?_
      refine gt_4_2 X hR (okf X.2.2.1 rfl) kw_122 dX8_spreadOverColumns_30 ?_
      refine lv_iload X.1.1 X.1.2.1 dX8_spreadOverColumns_33 (lv_at hl 4 rfl) ?_
      have c3 := hw.1
      have hw := hw.2
      refine ls_get (ci := 1) (by decide) (by decide) rfl X c3 (kc := 4) rmL_ok rm_c (by decide) hR hS kw_393 hl.1 dX8_spreadOverColumns_35 (Nat.le_of_ble_eq_true rfl) (fun H locs o4 hR hS => ?_)
      refine ck_1 X hR o4 kw_407 dX8_spreadOverColumns_38 ?_
      refine lv_astore (lv' := [(5, .ref (α 1 (M 14 0 y4))), (0, .ref (α 9 u0)), (1, .ref (α a1 b1)), (2, .int (Int32.ofInt p2)), (3, .int (Int32.ofInt y3)), (4, .int (Int32.ofInt y4))]) X.1.1 X.1.2.1 dX8_spreadOverColumns_41 hl (by decide) rfl (fun ls hl => ?_)
      refine lv_aload X.1.1 X.1.2.1 dX8_spreadOverColumns_43 (lv_at hl 0 rfl) ?_
      refine gt_1_12 X hR o4 kw_1017 dX8_spreadOverColumns_45 ?_
      have r5 := hR.r 1 (M 14 0 y4) 12
      refine lv_iload_n X.1.1 X.1.2.1 dX8_spreadOverColumns_48 rfl (lv_at hl 4 rfl) ?_
      refine sa_icmp_ne (tgt := 109) X.1 r5 hy3 dX8_spreadOverColumns_49 (by decide) (fun hc => ?_) (fun hc => ?_)
      · have hw := hw.1 hc
        exact t_X8_spreadOverColumns_109 X hu0 ha1 hoa1 hp2 hK2 ih _ _ _ hw hy3 hy4 _ _ hR hS _ (lv_sub hl [1, 2, 3, 4, 5] rfl)
      · have hw := hw.2 hc
        refine lv_iload_n X.1.1 X.1.2.1 dX8_spreadOverColumns_52 rfl (lv_at hl 3 rfl) ?_
        refine sa_if_eq (tgt := 64) X.1 hp2 dX8_spreadOverColumns_53 (by decide) (fun hc => ?_) (fun hc => ?_)
        · have hw := hw.1 hc
          refine lv_aload X.1.1 X.1.2.1 dX8_spreadOverColumns_64 (lv_at hl 0 rfl) ?_
          refine cs_X0_leastByWords X o4 (kc := 4) rmL_ok rm_c (by decide) hR hS kw_453 hl.1 dX8_spreadOverColumns_66 (Nat.le_of_ble_eq_true rfl) hw (fun x8 M7 H locs hw r9 hR hS => ?_)
          exact t_X8_spreadOverColumns_69 X hu0 ha1 hoa1 hp2 hK2 ih _ _ _ _ _ hw hy3 hy4 o4 r9 _ _ hR hS _ (lv_sub hl [1, 2, 3, 4, 5, 0] rfl)
        · have hw := hw.2 hc
          refine lv_aload X.1.1 X.1.2.1 dX8_spreadOverColumns_56 (lv_at hl 0 rfl) ?_
          refine cs_X0_mostByWords X o4 (kc := 4) rmL_ok rm_c (by decide) hR hS kw_458 hl.1 dX8_spreadOverColumns_58 (Nat.le_of_ble_eq_true rfl) hw (fun x18 M17 H locs hw r19 hR hS => ?_)
          refine lv_goto (tgt := 69) X.1.1 X.1.2.1 dX8_spreadOverColumns_61 (by decide) ?_
          exact t_X8_spreadOverColumns_69 X hu0 ha1 hoa1 hp2 hK2 ih _ _ _ _ _ hw hy3 hy4 o4 r19 _ _ hR hS _ (lv_sub hl [1, 2, 3, 4, 5, 0] rfl)
set_option maxHeartbeats 4000000 in
set_option maxRecDepth 100000 in
theorem t_X8_spreadOverColumns_2 {u0 : Int} {a1 : Nat} {b1 : Int} {p2 : Int} (X : CX p m c cX8_spreadOverColumns 9 s args RX8 G B κ meth none) (hu0 : okk κ 9 u0) (ha1 : A6 a1) (hoa1 : okk κ a1 b1) (hp2 : inR p2) {Qm : Mem → Prop} : ∀ n : Nat, ∀ y3 : Int, ∀ M : Mem, wp_X8_spreadOverColumns_2 u0 a1 b1 p2 Qm n y3 M → inR y3 → ∀ (H : Heap) (locs : List Loc), Rp G e0 α κ B M H → va_S (fun q => B ≤ q) s.heap H locs → ∀ (ls : Array Slot), lv_has ls 9 [(0, .ref (α 9 u0)), (1, .ref (α a1 b1)), (2, .int (Int32.ofInt p2)), (3, .int (Int32.ofInt y3))] → WV p l e 4 s m args below meth c G e0 α κ B Qm H locs 2 ls [] := by
  intro n
  induction n with
  | zero =>
    intro y3 M hw hy3 H locs hR hS ls hl
    exact hw.elim
  | succ n ih =>
    intro y3 M hw hy3 H locs hR hS ls hl
    have hw : ((6 < y3 → Qm M) ∧ (y3 ≤ 6 → (∃ n20 : Nat, wp_X8_spreadOverColumns_11 u0 a1 b1 p2 Qm (wp_X8_spreadOverColumns_2 u0 a1 b1 p2 Qm n) n20 y3 0 M))) := hw
    refine lv_iload_n X.1.1 X.1.2.1 dX8_spreadOverColumns_2 rfl (lv_at hl 3 rfl) ?_
    refine sa_bipush X.1 dX8_spreadOverColumns_3 (by decide) ?_
    refine sa_icmp_gt (tgt := 121) X.1 hy3 (inR_c (a := 6) rfl) dX8_spreadOverColumns_5 (by decide) (fun hc => ?_) (fun hc => ?_)
    · have hw := hw.1 hc
      exact sa_vret X.1 X.2.2.2.1 X.2.2.2.2 hR hS hw dX8_spreadOverColumns_121
    · have hw := hw.2 hc
      refine sa_const X.1 dX8_spreadOverColumns_8 ?_
      refine lv_istore (lv' := [(4, .int (Int32.ofInt 0)), (0, .ref (α 9 u0)), (1, .ref (α a1 b1)), (2, .int (Int32.ofInt p2)), (3, .int (Int32.ofInt y3))]) X.1.1 X.1.2.1 dX8_spreadOverColumns_9 hl (by decide) rfl (fun ls hl => ?_)
      obtain ⟨n20, hw⟩ := hw
      exact t_X8_spreadOverColumns_11 X hu0 ha1 hoa1 hp2 ih n20 _ _ _ hw hy3 (inR_c (a := 0) rfl) _ _ hR hS _ (lv_sub hl [1, 2, 3, 4, 0] rfl)
set_option maxHeartbeats 4000000 in
set_option maxRecDepth 100000 in
theorem t_X8_spreadOverColumns {u0 : Int} {a1 : Nat} {b1 : Int} {p2 : Int} (X : CX p m c cX8_spreadOverColumns 9 s args RX8 G B κ meth none) (hu0 : okk κ 9 u0) (ha1 : A6 a1) (hoa1 : okk κ a1 b1) (hp2 : inR p2) {M : Mem} {Qm : Mem → Prop} (hw : wp_X8_spreadOverColumns u0 a1 b1 p2 M Qm) (H : Heap) (locs : List Loc) (hR : Rp G e0 α κ B M H) (hS : va_S (fun q => B ≤ q) s.heap H locs) (ls : Array Slot) (hl : lv_has ls 9 [(0, .ref (α 9 u0)), (1, .ref (α a1 b1)), (2, .int (Int32.ofInt p2))]) : WV p l e 4 s m args below meth c G e0 α κ B Qm H locs 0 ls [] := by
  have hw : (∃ n21 : Nat, wp_X8_spreadOverColumns_2 u0 a1 b1 p2 Qm n21 2 M) := hw
  refine sa_const X.1 dX8_spreadOverColumns_0 ?_
  refine lv_istore_n (lv' := [(3, .int (Int32.ofInt 2)), (0, .ref (α 9 u0)), (1, .ref (α a1 b1)), (2, .int (Int32.ofInt p2))]) X.1.1 X.1.2.1 dX8_spreadOverColumns_1 rfl hl (by decide) rfl (fun ls hl => ?_)
  obtain ⟨n21, hw⟩ := hw
  exact t_X8_spreadOverColumns_2 X hu0 ha1 hoa1 hp2 n21 _ _ hw (inR_c (a := 2) rfl) _ _ hR hS _ (lv_sub hl [1, 2, 3, 0] rfl)
theorem m_X8_spreadOverColumns {l : Launch} {G : Gx} {e0 : Nat} {α : Ax} {κ : Nat → Int} {B : Nat} {u0 : Int} {a1 : Nat} {b1 : Int} {p2 : Int} (hκ : kOK κ) (hu0 : okk κ 9 u0) (ha1 : A6 a1) (hoa1 : okk κ a1 b1) (hp2 : inR p2) {M : Mem} {Qm : Mem → Prop} (hw : wp_X8_spreadOverColumns u0 a1 b1 p2 M Qm) : CV l yX8_spreadOverColumns (Cond.code yX8_spreadOverColumns cX8_spreadOverColumns 9 none) 4 G e0 α κ B [.ref (α 9 u0), .ref (α a1 b1), .int (Int32.ofInt p2)] M Qm :=
  CV.mk hκ (by decide +kernel) rfl (Nat.le_of_ble_eq_true rfl) (lv := [(0, .ref (α 9 u0)), (1, .ref (α a1 b1)), (2, .int (Int32.ofInt p2))]) rfl (fun p e s m args below meth c ls X hR hS hl => t_X8_spreadOverColumns X hu0 ha1 hoa1 hp2 hw _ _ hR hS ls hl)
theorem cs_X8_spreadOverColumns {cc : ByteArray} {nL : Nat} {own : String} {ret : Option FieldType} {idx pc : Nat} {u0 : Int} {a1 : Nat} {b1 : Int} {p2 : Int} (X : CX p m c cc nL s args own G B κ meth ret) (hu0 : okk κ 9 u0) (ha1 : A6 a1) (hoa1 : okk κ a1 b1) (hp2 : inR p2) {kc : Nat} {R : Room} {cells slots : Nat} (hRr : RmOK R kc) (hcel : cells ≤ R.cells ∧ slots ≤ R.slots) (hk : 4 + 1 ≤ kc) {M : Mem} {H : Heap} {locs : List Loc} (hR : Rp G e0 α κ B M H) (hS : va_S (fun q => B ≤ q) s.heap H locs) (k1 : Cond.methodLink own idx yX8_spreadOverColumns ∈ gw) {ls : Array Slot} (hml : ls.size = nL) {rest : List Value} (hd : decode cc pc = .ok (.invokevirtual idx, 3)) (hrest : (rest.map fun v => v.category).sum ≤ 8) {Q : State → Prop} {Qm : Mem → Prop} (hw : wp_X8_spreadOverColumns u0 a1 b1 p2 M Qm) (kk : ∀ (M1 : Mem) (H1 : Heap) (locs1 : List Loc), Qm M1 → Rp G e0 α κ B M1 H1 → va_S (fun q => B ≤ q) s.heap H1 locs1 → W p l e R s m args below meth c H1 locs1 cells slots Q (F0 m (pc + 3) ls (rest))) : W p l e R s m args below meth c H locs cells slots Q (F0 m pc ls (.int (Int32.ofInt p2) :: .ref (α a1 b1) :: .ref (α 9 u0) :: rest)) :=
  sa_callVV 4 (n := 2) (As := [.ref (α a1 b1), .int (Int32.ofInt p2)]) (rest := rest) X.1 X.2.1 hR hS (m_X8_spreadOverColumns X.2.2.1 hu0 ha1 hoa1 hp2 hw) k1 kw_464 kw_6 kw_43 kw_465 ⟨rfl, by decide +kernel, by decide +kernel, by decide +kernel⟩ (rm_ok hRr hk (by decide)) (rc_9 X hR hu0) rfl rfl hrest hml hd hcel kk
def wp_X8_shareOut_153 (u0 : Int) (p1 : Int) (Qm : Mem → Prop) (M : Mem) : Prop := Qm M
def wp_X8_shareOut_145 (u0 : Int) (p1 : Int) (Qm : Mem → Prop) (y2 : Int) (M : Mem) : Prop := ((y2 ≤ 0 → wp_X8_shareOut_153 u0 p1 Qm M) ∧ (0 < y2 → wp_X8_giveAll u0 M fun (M2 : Mem) => wp_X8_shareOut_153 u0 p1 Qm M2))
def wp_X8_shareOut_127 (u0 : Int) (p1 : Int) (Qm : Mem → Prop) (y2 : Int) (y3 : Int) (M : Mem) : Prop := ((y2 ≤ 0 → wp_X8_shareOut_145 u0 p1 Qm y2 M) ∧ (0 < y2 → ((y3 < y2 → wp_X8_shareOut_145 u0 p1 Qm y2 M) ∧ (y2 ≤ y3 → wp_X8_giveInProportion u0 y2 y3 M fun (M3 : Mem) => wp_X8_shareOut_153 u0 p1 Qm M3))))
def wp_X8_shareOut_121 (u0 : Int) (p1 : Int) (Qm : Mem → Prop) (K7 : Int → Int → Int → Mem → Prop) (y2 : Int) (y3 : Int) (y4 : Int) (M : Mem) : Prop := (inR (y4 + 1)) ∧ K7 y2 y3 (y4 + 1) M
def wp_X8_shareOut_7 (u0 : Int) (p1 : Int) (Qm : Mem → Prop) : Nat → Int → Int → Int → Mem → Prop
  | 0 => fun _ _ _ _ => False
  | n + 1 => fun y2 y3 y4 M => (((M 12 0 (-1)) ≤ y4 → wp_X8_shareOut_127 u0 p1 Qm y2 y3 M) ∧ (y4 < (M 12 0 (-1)) → ((6 ≤ y4 → wp_X8_shareOut_127 u0 p1 Qm y2 y3 M) ∧ (y4 < 6 → wp_X3_isShown y4 M fun (x5 : Int) (M4 : Mem) => ((x5 = 0 → wp_X8_shareOut_121 u0 p1 Qm (wp_X8_shareOut_7 u0 p1 Qm n) y2 y3 y4 M4) ∧ (¬ x5 = 0 → (0 ≤ y4 ∧ y4 < 6) ∧ (0 ≤ y4 ∧ y4 < M4 12 0 (-1)) ∧ wp_X8_wantedBy (M4 12 0 y4) p1 M4 fun (x13 : Int) (M12 : Mem) => (0 ≤ y4 ∧ y4 < 6) ∧ ∀ M16 : Mem, M16 = up M12 51 u0 y4 (max (M4 49 u0 y4) x13) → (0 ≤ y4 ∧ y4 < 6) ∧ (inR (y2 - (M16 51 u0 y4))) ∧ wp_X3_isShownContent y4 M16 fun (x22 : Int) (M21 : Mem) => (¬ x22 = 0 → (0 ≤ y4 ∧ y4 < 6) ∧ (0 ≤ y4 ∧ y4 < 6) ∧ (inR ((M21 50 u0 y4) - (M21 49 u0 y4))) ∧ True) ∧ (inR (if x22 = 0 then (0 : Int) else ((M21 50 u0 y4) - (M21 49 u0 y4)))) ∧ (inR (y3 + (if x22 = 0 then (0 : Int) else ((M21 50 u0 y4) - (M21 49 u0 y4))))) ∧ wp_X8_shareOut_121 u0 p1 Qm (wp_X8_shareOut_7 u0 p1 Qm n) (y2 - (M16 51 u0 y4)) (y3 + (if x22 = 0 then (0 : Int) else ((M21 50 u0 y4) - (M21 49 u0 y4)))) y4 M21))))))
def wp_X8_shareOut (u0 : Int) (p1 : Int) (M : Mem) (Qm : Mem → Prop) : Prop := (∃ n32 : Nat, wp_X8_shareOut_7 u0 p1 Qm n32 p1 0 0 M)
set_option maxHeartbeats 4000000 in
set_option maxRecDepth 100000 in
theorem t_X8_shareOut_153 {u0 : Int} {p1 : Int} (X : CX p m c cX8_shareOut 5 s args RX8 G B κ meth none) (hu0 : okk κ 9 u0) (hp1 : inR p1) {Qm : Mem → Prop} : ∀ M : Mem, wp_X8_shareOut_153 u0 p1 Qm M → ∀ (H : Heap) (locs : List Loc), Rp G e0 α κ B M H → va_S (fun q => B ≤ q) s.heap H locs → ∀ (ls : Array Slot), lv_has ls 5 [] → WV p l e 5 s m args below meth c G e0 α κ B Qm H locs 153 ls [] := by
  intro M hw H locs hR hS ls hl
  have hw : Qm M := hw
  exact sa_vret X.1 X.2.2.2.1 X.2.2.2.2 hR hS hw dX8_shareOut_153
set_option maxHeartbeats 4000000 in
set_option maxRecDepth 100000 in
theorem t_X8_shareOut_145 {u0 : Int} {p1 : Int} (X : CX p m c cX8_shareOut 5 s args RX8 G B κ meth none) (hu0 : okk κ 9 u0) (hp1 : inR p1) {Qm : Mem → Prop} : ∀ y2 : Int, ∀ M : Mem, wp_X8_shareOut_145 u0 p1 Qm y2 M → inR y2 → ∀ (H : Heap) (locs : List Loc), Rp G e0 α κ B M H → va_S (fun q => B ≤ q) s.heap H locs → ∀ (ls : Array Slot), lv_has ls 5 [(0, .ref (α 9 u0)), (2, .int (Int32.ofInt y2))] → WV p l e 5 s m args below meth c G e0 α κ B Qm H locs 145 ls [] := by
  intro y2 M hw hy2 H locs hR hS ls hl
  have hw : ((y2 ≤ 0 → wp_X8_shareOut_153 u0 p1 Qm M) ∧ (0 < y2 → wp_X8_giveAll u0 M fun (M2 : Mem) => wp_X8_shareOut_153 u0 p1 Qm M2)) := hw
  refine lv_iload_n X.1.1 X.1.2.1 dX8_shareOut_145 rfl (lv_at hl 1 rfl) ?_
  refine sa_if_le (tgt := 153) X.1 hy2 dX8_shareOut_146 (by decide) (fun hc => ?_) (fun hc => ?_)
  · have hw := hw.1 hc
    exact t_X8_shareOut_153 X hu0 hp1 _ hw _ _ hR hS _ (lv_sub hl [] rfl)
  · have hw := hw.2 hc
    refine lv_aload_n X.1.1 X.1.2.1 dX8_shareOut_149 rfl (lv_at hl 0 rfl) ?_
    refine cs_X8_giveAll X hu0 (kc := 5) rmL_ok rm_c (by decide) hR hS kw_503 hl.1 dX8_shareOut_150 (Nat.le_of_ble_eq_true rfl) hw (fun M2 H locs hw hR hS => ?_)
    exact t_X8_shareOut_153 X hu0 hp1 _ hw _ _ hR hS _ (lv_sub hl [] rfl)
set_option maxHeartbeats 4000000 in
set_option maxRecDepth 100000 in
theorem t_X8_shareOut_127 {u0 : Int} {p1 : Int} (X : CX p m c cX8_shareOut 5 s args RX8 G B κ meth none) (hu0 : okk κ 9 u0) (hp1 : inR p1) {Qm : Mem → Prop} : ∀ y2 : Int, ∀ y3 : Int, ∀ M : Mem, wp_X8_shareOut_127 u0 p1 Qm y2 y3 M → inR y2 → inR y3 → ∀ (H : Heap) (locs : List Loc), Rp G e0 α κ B M H → va_S (fun q => B ≤ q) s.heap H locs → ∀ (ls : Array Slot), lv_has ls 5 [(0, .ref (α 9 u0)), (2, .int (Int32.ofInt y2)), (3, .int (Int32.ofInt y3))] → WV p l e 5 s m args below meth c G e0 α κ B Qm H locs 127 ls [] := by
  intro y2 y3 M hw hy2 hy3 H locs hR hS ls hl
  have hw : ((y2 ≤ 0 → wp_X8_shareOut_145 u0 p1 Qm y2 M) ∧ (0 < y2 → ((y3 < y2 → wp_X8_shareOut_145 u0 p1 Qm y2 M) ∧ (y2 ≤ y3 → wp_X8_giveInProportion u0 y2 y3 M fun (M3 : Mem) => wp_X8_shareOut_153 u0 p1 Qm M3)))) := hw
  refine lv_iload_n X.1.1 X.1.2.1 dX8_shareOut_127 rfl (lv_at hl 1 rfl) ?_
  refine sa_if_le (tgt := 145) X.1 hy2 dX8_shareOut_128 (by decide) (fun hc => ?_) (fun hc => ?_)
  · have hw := hw.1 hc
    exact t_X8_shareOut_145 X hu0 hp1 _ _ hw hy2 _ _ hR hS _ (lv_sub hl [0, 1] rfl)
  · have hw := hw.2 hc
    refine lv_iload_n X.1.1 X.1.2.1 dX8_shareOut_131 rfl (lv_at hl 2 rfl) ?_
    refine lv_iload_n X.1.1 X.1.2.1 dX8_shareOut_132 rfl (lv_at hl 1 rfl) ?_
    refine sa_icmp_lt (tgt := 145) X.1 hy3 hy2 dX8_shareOut_133 (by decide) (fun hc => ?_) (fun hc => ?_)
    · have hw := hw.1 hc
      exact t_X8_shareOut_145 X hu0 hp1 _ _ hw hy2 _ _ hR hS _ (lv_sub hl [0, 1] rfl)
    · have hw := hw.2 hc
      refine lv_aload_n X.1.1 X.1.2.1 dX8_shareOut_136 rfl (lv_at hl 0 rfl) ?_
      refine lv_iload_n X.1.1 X.1.2.1 dX8_shareOut_137 rfl (lv_at hl 1 rfl) ?_
      refine lv_iload_n X.1.1 X.1.2.1 dX8_shareOut_138 rfl (lv_at hl 2 rfl) ?_
      refine cs_X8_giveInProportion X hu0 hy2 hy3 (kc := 5) rmL_ok rm_c (by decide) hR hS kw_499 hl.1 dX8_shareOut_139 (Nat.le_of_ble_eq_true rfl) hw (fun M3 H locs hw hR hS => ?_)
      refine lv_goto (tgt := 153) X.1.1 X.1.2.1 dX8_shareOut_142 (by decide) ?_
      exact t_X8_shareOut_153 X hu0 hp1 _ hw _ _ hR hS _ (lv_sub hl [] rfl)
set_option maxHeartbeats 4000000 in
set_option maxRecDepth 100000 in
theorem t_X8_shareOut_121 {u0 : Int} {p1 : Int} (X : CX p m c cX8_shareOut 5 s args RX8 G B κ meth none) (hu0 : okk κ 9 u0) (hp1 : inR p1) {Qm : Mem → Prop} {K7 : Int → Int → Int → Mem → Prop} (hK7 : ∀ y2 : Int, ∀ y3 : Int, ∀ y4 : Int, ∀ M : Mem, K7 y2 y3 y4 M → inR y2 → inR y3 → inR y4 → ∀ (H : Heap) (locs : List Loc), Rp G e0 α κ B M H → va_S (fun q => B ≤ q) s.heap H locs → ∀ (ls : Array Slot), lv_has ls 5 [(0, .ref (α 9 u0)), (1, .int (Int32.ofInt p1)), (2, .int (Int32.ofInt y2)), (3, .int (Int32.ofInt y3)), (4, .int (Int32.ofInt y4))] → WV p l e 5 s m args below meth c G e0 α κ B Qm H locs 7 ls []) : ∀ y2 : Int, ∀ y3 : Int, ∀ y4 : Int, ∀ M : Mem, wp_X8_shareOut_121 u0 p1 Qm K7 y2 y3 y4 M → inR y2 → inR y3 → inR y4 → ∀ (H : Heap) (locs : List Loc), Rp G e0 α κ B M H → va_S (fun q => B ≤ q) s.heap H locs → ∀ (ls : Array Slot), lv_has ls 5 [(0, .ref (α 9 u0)), (1, .int (Int32.ofInt p1)), (2, .int (Int32.ofInt y2)), (3, .int (Int32.ofInt y3)), (4, .int (Int32.ofInt y4))] → WV p l e 5 s m args below meth c G e0 α κ B Qm H locs 121 ls [] := by
  intro y2 y3 y4 M hw hy2 hy3 hy4 H locs hR hS ls hl
  have hw : (inR (y4 + 1)) ∧ K7 y2 y3 (y4 + 1) M := hw
  have c7 := hw.1
  have hw := hw.2
  refine lv_iinc (v := Int32.ofInt (y4 + 1)) (lv' := [(4, .int (Int32.ofInt (y4 + 1))), (0, .ref (α 9 u0)), (1, .int (Int32.ofInt p1)), (2, .int (Int32.ofInt y2)), (3, .int (Int32.ofInt y3))]) X.1.1 X.1.2.1 dX8_shareOut_121 hl (k := 4) rfl (Int32.ofInt_add _ _).symm (by decide) rfl (fun ls hl => ?_)
  refine lv_goto (tgt := 7) X.1.1 X.1.2.1 dX8_shareOut_124 (by decide) ?_
  exact hK7 _ _ _ _ hw hy2 hy3 c7 _ _ hR hS _ (lv_sub hl [1, 2, 3, 4, 0] rfl)
set_option maxHeartbeats 4000000 in
set_option maxRecDepth 100000 in
theorem t_X8_shareOut_7 {u0 : Int} {p1 : Int} (X : CX p m c cX8_shareOut 5 s args RX8 G B κ meth none) (hu0 : okk κ 9 u0) (hp1 : inR p1) {Qm : Mem → Prop} : ∀ n : Nat, ∀ y2 : Int, ∀ y3 : Int, ∀ y4 : Int, ∀ M : Mem, wp_X8_shareOut_7 u0 p1 Qm n y2 y3 y4 M → inR y2 → inR y3 → inR y4 → ∀ (H : Heap) (locs : List Loc), Rp G e0 α κ B M H → va_S (fun q => B ≤ q) s.heap H locs → ∀ (ls : Array Slot), lv_has ls 5 [(0, .ref (α 9 u0)), (1, .int (Int32.ofInt p1)), (2, .int (Int32.ofInt y2)), (3, .int (Int32.ofInt y3)), (4, .int (Int32.ofInt y4))] → WV p l e 5 s m args below meth c G e0 α κ B Qm H locs 7 ls [] := by
  intro n
  induction n with
  | zero =>
    intro y2 y3 y4 M hw hy2 hy3 hy4 H locs hR hS ls hl
    exact hw.elim
  | succ n ih =>
    intro y2 y3 y4 M hw hy2 hy3 hy4 H locs hR hS ls hl
    have hw : (((M 12 0 (-1)) ≤ y4 → wp_X8_shareOut_127 u0 p1 Qm y2 y3 M) ∧ (y4 < (M 12 0 (-1)) → ((6 ≤ y4 → wp_X8_shareOut_127 u0 p1 Qm y2 y3 M) ∧ (y4 < 6 → wp_X3_isShown y4 M fun (x5 : Int) (M4 : Mem) => ((x5 = 0 → wp_X8_shareOut_121 u0 p1 Qm (wp_X8_shareOut_7 u0 p1 Qm n) y2 y3 y4 M4) ∧ (¬ x5 = 0 → (0 ≤ y4 ∧ y4 < 6) ∧ (0 ≤ y4 ∧ y4 < M4 12 0 (-1)) ∧ wp_X8_wantedBy (M4 12 0 y4) p1 M4 fun (x13 : Int) (M12 : Mem) => (0 ≤ y4 ∧ y4 < 6) ∧ ∀ M16 : Mem, M16 = up M12 51 u0 y4 (max (M4 49 u0 y4) x13) → (0 ≤ y4 ∧ y4 < 6) ∧ (inR (y2 - (M16 51 u0 y4))) ∧ wp_X3_isShownContent y4 M16 fun (x22 : Int) (M21 : Mem) => (¬ x22 = 0 → (0 ≤ y4 ∧ y4 < 6) ∧ (0 ≤ y4 ∧ y4 < 6) ∧ (inR ((M21 50 u0 y4) - (M21 49 u0 y4))) ∧ True) ∧ (inR (if x22 = 0 then (0 : Int) else ((M21 50 u0 y4) - (M21 49 u0 y4)))) ∧ (inR (y3 + (if x22 = 0 then (0 : Int) else ((M21 50 u0 y4) - (M21 49 u0 y4))))) ∧ wp_X8_shareOut_121 u0 p1 Qm (wp_X8_shareOut_7 u0 p1 Qm n) (y2 - (M16 51 u0 y4)) (y3 + (if x22 = 0 then (0 : Int) else ((M21 50 u0 y4) - (M21 49 u0 y4)))) y4 M21)))))) := hw
    refine lv_iload X.1.1 X.1.2.1 dX8_shareOut_7 (lv_at hl 4 rfl) ?_
    refine lv_aload_n X.1.1 X.1.2.1 dX8_shareOut_9 rfl (lv_at hl 0 rfl) ?_
    refine gt_9_0 X hR hu0 kw_155 dX8_shareOut_10 ?_
    refine gt_4_0 X hR (okf X.2.2.1 rfl) kw_114 dX8_shareOut_13 ?_
    refine ls_size (by decide) (by decide) X (kc := 5) rmL_ok rm_c (by decide) hR hS kw_389 hl.1 dX8_shareOut_16 (Nat.le_of_ble_eq_true rfl) (fun H locs hR hS => ?_)
    have r1 := hR.r 12 0 (-1)
    refine sa_icmp_ge (tgt := 127) X.1 hy4 r1 dX8_shareOut_19 (by decide) (fun hc => ?_) (fun hc => ?_)
    · have hw := hw.1 hc
      exact t_X8_shareOut_127 X hu0 hp1 _ _ _ hw hy2 hy3 _ _ hR hS _ (lv_sub hl [0, 2, 3] rfl)
    · have hw := hw.2 hc
      refine lv_iload X.1.1 X.1.2.1 dX8_shareOut_22 (lv_at hl 4 rfl) ?_
      refine sa_bipush X.1 dX8_shareOut_24 (by decide) ?_
      refine sa_icmp_ge (tgt := 127) X.1 hy4 (inR_c (a := 6) rfl) dX8_shareOut_26 (by decide) (fun hc => ?_) (fun hc => ?_)
      · have hw := hw.1 hc
        exact t_X8_shareOut_127 X hu0 hp1 _ _ _ hw hy2 hy3 _ _ hR hS _ (lv_sub hl [0, 2, 3] rfl)
      · have hw := hw.2 hc
        refine lv_aload_n X.1.1 X.1.2.1 dX8_shareOut_29 rfl (lv_at hl 0 rfl) ?_
        refine gt_9_0 X hR hu0 kw_155 dX8_shareOut_30 ?_
        refine lv_iload X.1.1 X.1.2.1 dX8_shareOut_33 (lv_at hl 4 rfl) ?_
        refine cs_X3_isShown X hy4 (kc := 5) rmL_ok rm_c (by decide) hR hS kw_452 hl.1 dX8_shareOut_35 (Nat.le_of_ble_eq_true rfl) hw (fun x5 M4 H locs hw r6 hR hS => ?_)
        refine sa_if_eq (tgt := 121) X.1 r6 dX8_shareOut_38 (by decide) (fun hc => ?_) (fun hc => ?_)
        · have hw := hw.1 hc
          exact t_X8_shareOut_121 X hu0 hp1 ih _ _ _ _ hw hy2 hy3 hy4 _ _ hR hS _ (lv_sub hl [0, 1, 2, 3, 4] rfl)
        · have hw := hw.2 hc
          refine lv_aload_n X.1.1 X.1.2.1 dX8_shareOut_41 rfl (lv_at hl 0 rfl) ?_
          refine gt_9_3 X hR hu0 kw_160 dX8_shareOut_42 ?_
          refine lv_iload X.1.1 X.1.2.1 dX8_shareOut_45 (lv_at hl 4 rfl) ?_
          refine lv_aload_n X.1.1 X.1.2.1 dX8_shareOut_47 rfl (lv_at hl 0 rfl) ?_
          refine gt_9_1 X hR hu0 kw_156 dX8_shareOut_48 ?_
          refine lv_iload X.1.1 X.1.2.1 dX8_shareOut_51 (lv_at hl 4 rfl) ?_
          have c8 := hw.1
          have hw := hw.2
          refine ra_49 X hR (okp X.2.2.1 rfl (pr_9 X.2.2.1 hu0)) c8 dX8_shareOut_53 ?_
          have r9 := hR.r 49 u0 y4
          refine lv_aload_n X.1.1 X.1.2.1 dX8_shareOut_54 rfl (lv_at hl 0 rfl) ?_
          refine gt_9_0 X hR hu0 kw_155 dX8_shareOut_55 ?_
          refine gt_4_0 X hR (okf X.2.2.1 rfl) kw_114 dX8_shareOut_58 ?_
          refine lv_iload X.1.1 X.1.2.1 dX8_shareOut_61 (lv_at hl 4 rfl) ?_
          have c10 := hw.1
          have hw := hw.2
          refine ls_get (ci := 2) (by decide) (by decide) rfl X c10 (kc := 5) rmL_ok rm_c (by decide) hR hS kw_393 hl.1 dX8_shareOut_63 (Nat.le_of_ble_eq_true rfl) (fun H locs o11 hR hS => ?_)
          refine ck_2 X hR o11 kw_476 dX8_shareOut_66 ?_
          refine lv_iload_n X.1.1 X.1.2.1 dX8_shareOut_69 rfl (lv_at hl 1 rfl) ?_
          refine cs_X8_wantedBy X o11 hp1 (kc := 5) rmL_ok rm_c (by decide) hR hS kw_489 hl.1 dX8_shareOut_70 (Nat.le_of_ble_eq_true rfl) hw (fun x13 M12 H locs hw r14 hR hS => ?_)
          refine sa_max (R := rmL 5) X.1 r9 r14 hl.1 kw_419 kmath_max_s kmath_i kmath_max_c (by decide) (Nat.le_of_ble_eq_true rfl) rm_c dX8_shareOut_73 ?_
          have c15 := hw.1
          have hw := hw.2
          refine wa_51 X hR hS (okp X.2.2.1 rfl (pr_9 X.2.2.1 hu0)) c15 (inR_max r9 r14) dX8_shareOut_76 (fun H locs hR hS => ?_)
          obtain ⟨M16, e17⟩ : ∃ z : Mem, z = up M12 51 u0 y4 (max (M4 49 u0 y4) x13) := ⟨_, rfl⟩
          rw [← e17] at hR
          have hw := hw M16 e17
          refine lv_iload_n X.1.1 X.1.2.1 dX8_shareOut_77 rfl (lv_at hl 2 rfl) ?_
          refine lv_aload_n X.1.1 X.1.2.1 dX8_shareOut_78 rfl (lv_at hl 0 rfl) ?_
          refine gt_9_3 X hR hu0 kw_160 dX8_shareOut_79 ?_
          refine lv_iload X.1.1 X.1.2.1 dX8_shareOut_82 (lv_at hl 4 rfl) ?_
          have c18 := hw.1
          have hw := hw.2
          refine ra_51 X hR (okp X.2.2.1 rfl (pr_9 X.2.2.1 hu0)) c18 dX8_shareOut_84 ?_
          have r19 := hR.r 51 u0 y4
          have c20 := hw.1
          have hw := hw.2
          refine sa_isub X.1 dX8_shareOut_85 ?_
          refine lv_istore_n (lv' := [(2, .int (Int32.ofInt (y2 - (M16 51 u0 y4)))), (0, .ref (α 9 u0)), (1, .int (Int32.ofInt p1)), (3, .int (Int32.ofInt y3)), (4, .int (Int32.ofInt y4))]) X.1.1 X.1.2.1 dX8_shareOut_86 rfl hl (by decide) rfl (fun ls hl => ?_)
          refine lv_iload_n X.1.1 X.1.2.1 dX8_shareOut_87 rfl (lv_at hl 3 rfl) ?_
          refine lv_aload_n X.1.1 X.1.2.1 dX8_shareOut_88 rfl (lv_at hl 1 rfl) ?_
          refine gt_9_0 X hR hu0 kw_155 dX8_shareOut_89 ?_
          refine lv_iload X.1.1 X.1.2.1 dX8_shareOut_92 (lv_at hl 4 rfl) ?_
          refine cs_X3_isShownContent X hy4 (kc := 5) rmL_ok rm_c (by decide) hR hS kw_495 hl.1 dX8_shareOut_94 (Nat.le_of_ble_eq_true rfl) hw (fun x22 M21 H locs hw r23 hR hS => ?_)
          have s27 := hw.1
          have hw := hw.2
          have c28 := hw.1
          have hw := hw.2
          refine cut_j (A := ∀ v29 : Int, v29 = (if x22 = 0 then (0 : Int) else ((M21 50 u0 y4) - (M21 49 u0 y4))) → WV p l e 5 s m args below meth c G e0 α κ B Qm H locs 119 ls [.int (Int32.ofInt v29), .int (Int32.ofInt y3)]) (fun J30 => ?_) ?_
          · refine sa_if_eq (tgt := 118) X.1 r23 dX8_shareOut_97 (by decide) (fun hc => ?_) (fun hc => ?_)
            · skip
              refine sa_const X.1 dX8_shareOut_118 ?_
              exact J30 (0) (if_pos (c := x22 = 0) hc).symm
            · have hw := s27 hc
              refine lv_aload_n X.1.1 X.1.2.1 dX8_shareOut_100 rfl (lv_at hl 1 rfl) ?_
              refine gt_9_2 X hR hu0 kw_158 dX8_shareOut_101 ?_
              refine lv_iload X.1.1 X.1.2.1 dX8_shareOut_104 (lv_at hl 4 rfl) ?_
              have c24 := hw.1
              have hw := hw.2
              refine ra_50 X hR (okp X.2.2.1 rfl (pr_9 X.2.2.1 hu0)) c24 dX8_shareOut_106 ?_
              refine lv_aload_n X.1.1 X.1.2.1 dX8_shareOut_107 rfl (lv_at hl 1 rfl) ?_
              refine gt_9_1 X hR hu0 kw_156 dX8_shareOut_108 ?_
              refine lv_iload X.1.1 X.1.2.1 dX8_shareOut_111 (lv_at hl 4 rfl) ?_
              have c25 := hw.1
              have hw := hw.2
              refine ra_49 X hR (okp X.2.2.1 rfl (pr_9 X.2.2.1 hu0)) c25 dX8_shareOut_113 ?_
              have c26 := hw.1
              have hw := hw.2
              refine sa_isub X.1 dX8_shareOut_114 ?_
              refine lv_goto (tgt := 119) X.1.1 X.1.2.1 dX8_shareOut_115 (by decide) ?_
              exact J30 (((M21 50 u0 y4) - (M21 49 u0 y4))) (if_neg (c := x22 = 0) hc).symm
          intro v29 hv29
          subst hv29
          have c31 := hw.1
          have hw := hw.2
          refine sa_iadd X.1 dX8_shareOut_119 ?_
          refine lv_istore_n (lv' := [(3, .int (Int32.ofInt (y3 + (if x22 = 0 then (0 : Int) else ((M21 50 u0 y4) - (M21 49 u0 y4)))))), (2, .int (Int32.ofInt (y2 - (M16 51 u0 y4)))), (0, .ref (α 9 u0)), (1, .int (Int32.ofInt p1)), (4, .int (Int32.ofInt y4))]) X.1.1 X.1.2.1 dX8_shareOut_120 rfl hl (by decide) rfl (fun ls hl => ?_)
          exact t_X8_shareOut_121 X hu0 hp1 ih _ _ _ _ hw c20 c31 hy4 _ _ hR hS _ (lv_sub hl [2, 3, 1, 0, 4] rfl)
set_option maxHeartbeats 4000000 in
set_option maxRecDepth 100000 in
theorem t_X8_shareOut {u0 : Int} {p1 : Int} (X : CX p m c cX8_shareOut 5 s args RX8 G B κ meth none) (hu0 : okk κ 9 u0) (hp1 : inR p1) {M : Mem} {Qm : Mem → Prop} (hw : wp_X8_shareOut u0 p1 M Qm) (H : Heap) (locs : List Loc) (hR : Rp G e0 α κ B M H) (hS : va_S (fun q => B ≤ q) s.heap H locs) (ls : Array Slot) (hl : lv_has ls 5 [(0, .ref (α 9 u0)), (1, .int (Int32.ofInt p1))]) : WV p l e 5 s m args below meth c G e0 α κ B Qm H locs 0 ls [] := by
  have hw : (∃ n32 : Nat, wp_X8_shareOut_7 u0 p1 Qm n32 p1 0 0 M) := hw
  refine lv_iload_n X.1.1 X.1.2.1 dX8_shareOut_0 rfl (lv_at hl 1 rfl) ?_
  refine lv_istore_n (lv' := [(2, .int (Int32.ofInt p1)), (0, .ref (α 9 u0)), (1, .int (Int32.ofInt p1))]) X.1.1 X.1.2.1 dX8_shareOut_1 rfl hl (by decide) rfl (fun ls hl => ?_)
  refine sa_const X.1 dX8_shareOut_2 ?_
  refine lv_istore_n (lv' := [(3, .int (Int32.ofInt 0)), (2, .int (Int32.ofInt p1)), (0, .ref (α 9 u0)), (1, .int (Int32.ofInt p1))]) X.1.1 X.1.2.1 dX8_shareOut_3 rfl hl (by decide) rfl (fun ls hl => ?_)
  refine sa_const X.1 dX8_shareOut_4 ?_
  refine lv_istore (lv' := [(4, .int (Int32.ofInt 0)), (3, .int (Int32.ofInt 0)), (2, .int (Int32.ofInt p1)), (0, .ref (α 9 u0)), (1, .int (Int32.ofInt p1))]) X.1.1 X.1.2.1 dX8_shareOut_5 hl (by decide) rfl (fun ls hl => ?_)
  obtain ⟨n32, hw⟩ := hw
  exact t_X8_shareOut_7 X hu0 hp1 n32 _ _ _ _ hw hp1 (inR_c (a := 0) rfl) (inR_c (a := 0) rfl) _ _ hR hS _ (lv_sub hl [3, 4, 2, 1, 0] rfl)
theorem m_X8_shareOut {l : Launch} {G : Gx} {e0 : Nat} {α : Ax} {κ : Nat → Int} {B : Nat} {u0 : Int} {p1 : Int} (hκ : kOK κ) (hu0 : okk κ 9 u0) (hp1 : inR p1) {M : Mem} {Qm : Mem → Prop} (hw : wp_X8_shareOut u0 p1 M Qm) : CV l yX8_shareOut (Cond.code yX8_shareOut cX8_shareOut 5 none) 5 G e0 α κ B [.ref (α 9 u0), .int (Int32.ofInt p1)] M Qm :=
  CV.mk hκ (by decide +kernel) rfl (Nat.le_of_ble_eq_true rfl) (lv := [(0, .ref (α 9 u0)), (1, .int (Int32.ofInt p1))]) rfl (fun p e s m args below meth c ls X hR hS hl => t_X8_shareOut X hu0 hp1 hw _ _ hR hS ls hl)
theorem cs_X8_shareOut {cc : ByteArray} {nL : Nat} {own : String} {ret : Option FieldType} {idx pc : Nat} {u0 : Int} {p1 : Int} (X : CX p m c cc nL s args own G B κ meth ret) (hu0 : okk κ 9 u0) (hp1 : inR p1) {kc : Nat} {R : Room} {cells slots : Nat} (hRr : RmOK R kc) (hcel : cells ≤ R.cells ∧ slots ≤ R.slots) (hk : 5 + 1 ≤ kc) {M : Mem} {H : Heap} {locs : List Loc} (hR : Rp G e0 α κ B M H) (hS : va_S (fun q => B ≤ q) s.heap H locs) (k1 : Cond.methodLink own idx yX8_shareOut ∈ gw) {ls : Array Slot} (hml : ls.size = nL) {rest : List Value} (hd : decode cc pc = .ok (.invokevirtual idx, 3)) (hrest : (rest.map fun v => v.category).sum ≤ 8) {Q : State → Prop} {Qm : Mem → Prop} (hw : wp_X8_shareOut u0 p1 M Qm) (kk : ∀ (M1 : Mem) (H1 : Heap) (locs1 : List Loc), Qm M1 → Rp G e0 α κ B M1 H1 → va_S (fun q => B ≤ q) s.heap H1 locs1 → W p l e R s m args below meth c H1 locs1 cells slots Q (F0 m (pc + 3) ls (rest))) : W p l e R s m args below meth c H locs cells slots Q (F0 m pc ls (.int (Int32.ofInt p1) :: .ref (α 9 u0) :: rest)) :=
  sa_callVV 5 (n := 1) (As := [.int (Int32.ofInt p1)]) (rest := rest) X.1 X.2.1 hR hS (m_X8_shareOut X.2.2.1 hu0 hp1 hw) k1 kw_487 kw_8 kw_43 kw_488 ⟨rfl, by decide +kernel, by decide +kernel, by decide +kernel⟩ (rm_ok hRr hk (by decide)) (rc_9 X hR hu0) rfl rfl hrest hml hd hcel kk
end
