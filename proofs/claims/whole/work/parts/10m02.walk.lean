theorem dX10_totalled_0 : decode cX10_totalled 0 = .ok (.aload_n 0, 1) := by decide +kernel
theorem dX10_totalled_1 : decode cX10_totalled 1 = .ok (.aload_n 0, 1) := by decide +kernel
theorem dX10_totalled_2 : decode cX10_totalled 2 = .ok (.iload_n 1, 1) := by decide +kernel
theorem dX10_totalled_3 : decode cX10_totalled 3 = .ok (.invokevirtual 187, 3) := by decide +kernel
theorem dX10_totalled_6 : decode cX10_totalled 6 = .ok (.iconst 1, 1) := by decide +kernel
theorem dX10_totalled_7 : decode cX10_totalled 7 = .ok (.iconst 1, 1) := by decide +kernel
theorem dX10_totalled_8 : decode cX10_totalled 8 = .ok (.invokevirtual 175, 3) := by decide +kernel
theorem dX10_totalled_11 : decode cX10_totalled 11 = .ok (.ifCond .ne 5, 3) := by decide +kernel
theorem dX10_totalled_14 : decode cX10_totalled 14 = .ok (.iconst 0, 1) := by decide +kernel
theorem dX10_totalled_15 : decode cX10_totalled 15 = .ok (.ireturn, 1) := by decide +kernel
theorem dX10_totalled_16 : decode cX10_totalled 16 = .ok (.aload_n 0, 1) := by decide +kernel
theorem dX10_totalled_17 : decode cX10_totalled 17 = .ok (.getfield 16, 3) := by decide +kernel
theorem dX10_totalled_20 : decode cX10_totalled 20 = .ok (.iload_n 1, 1) := by decide +kernel
theorem dX10_totalled_21 : decode cX10_totalled 21 = .ok (.aload_n 0, 1) := by decide +kernel
theorem dX10_totalled_22 : decode cX10_totalled 22 = .ok (.getfield 16, 3) := by decide +kernel
theorem dX10_totalled_25 : decode cX10_totalled 25 = .ok (.iload_n 1, 1) := by decide +kernel
theorem dX10_totalled_26 : decode cX10_totalled 26 = .ok (.baload, 1) := by decide +kernel
theorem dX10_totalled_27 : decode cX10_totalled 27 = .ok (.ifCond .ne 7, 3) := by decide +kernel
theorem dX10_totalled_30 : decode cX10_totalled 30 = .ok (.iconst 1, 1) := by decide +kernel
theorem dX10_totalled_31 : decode cX10_totalled 31 = .ok (.goto 4, 3) := by decide +kernel
theorem dX10_totalled_34 : decode cX10_totalled 34 = .ok (.iconst 0, 1) := by decide +kernel
theorem dX10_totalled_35 : decode cX10_totalled 35 = .ok (.bastore, 1) := by decide +kernel
theorem dX10_totalled_36 : decode cX10_totalled 36 = .ok (.aload_n 0, 1) := by decide +kernel
theorem dX10_totalled_37 : decode cX10_totalled 37 = .ok (.getfield 16, 3) := by decide +kernel
theorem dX10_totalled_40 : decode cX10_totalled 40 = .ok (.iload_n 1, 1) := by decide +kernel
theorem dX10_totalled_41 : decode cX10_totalled 41 = .ok (.baload, 1) := by decide +kernel
theorem dX10_totalled_42 : decode cX10_totalled 42 = .ok (.ireturn, 1) := by decide +kernel
theorem dX10_visible_0 : decode cX10_visible 0 = .ok (.iconst 0, 1) := by decide +kernel
theorem dX10_visible_1 : decode cX10_visible 1 = .ok (.istore_n 1, 1) := by decide +kernel
theorem dX10_visible_2 : decode cX10_visible 2 = .ok (.iconst 0, 1) := by decide +kernel
theorem dX10_visible_3 : decode cX10_visible 3 = .ok (.istore_n 2, 1) := by decide +kernel
theorem dX10_visible_4 : decode cX10_visible 4 = .ok (.iload_n 2, 1) := by decide +kernel
theorem dX10_visible_5 : decode cX10_visible 5 = .ok (.aload_n 0, 1) := by decide +kernel
theorem dX10_visible_6 : decode cX10_visible 6 = .ok (.getfield 162, 3) := by decide +kernel
theorem dX10_visible_9 : decode cX10_visible 9 = .ok (.if_icmp .ge 26, 3) := by decide +kernel
theorem dX10_visible_12 : decode cX10_visible 12 = .ok (.iload_n 1, 1) := by decide +kernel
theorem dX10_visible_13 : decode cX10_visible 13 = .ok (.aload_n 0, 1) := by decide +kernel
theorem dX10_visible_14 : decode cX10_visible 14 = .ok (.getfield 20, 3) := by decide +kernel
theorem dX10_visible_17 : decode cX10_visible 17 = .ok (.iload_n 2, 1) := by decide +kernel
theorem dX10_visible_18 : decode cX10_visible 18 = .ok (.baload, 1) := by decide +kernel
theorem dX10_visible_19 : decode cX10_visible 19 = .ok (.ifCond .eq 7, 3) := by decide +kernel
theorem dX10_visible_22 : decode cX10_visible 22 = .ok (.iconst 0, 1) := by decide +kernel
theorem dX10_visible_23 : decode cX10_visible 23 = .ok (.goto 4, 3) := by decide +kernel
theorem dX10_visible_26 : decode cX10_visible 26 = .ok (.iconst 1, 1) := by decide +kernel
theorem dX10_visible_27 : decode cX10_visible 27 = .ok (.iadd, 1) := by decide +kernel
theorem dX10_visible_28 : decode cX10_visible 28 = .ok (.istore_n 1, 1) := by decide +kernel
theorem dX10_visible_29 : decode cX10_visible 29 = .ok (.iinc 2 1, 3) := by decide +kernel
theorem dX10_visible_32 : decode cX10_visible 32 = .ok (.goto (-28), 3) := by decide +kernel
theorem dX10_visible_35 : decode cX10_visible 35 = .ok (.iload_n 1, 1) := by decide +kernel
theorem dX10_visible_36 : decode cX10_visible 36 = .ok (.ireturn, 1) := by decide +kernel
theorem dX10_hide_0 : decode cX10_hide 0 = .ok (.aload_n 0, 1) := by decide +kernel
theorem dX10_hide_1 : decode cX10_hide 1 = .ok (.iload_n 1, 1) := by decide +kernel
theorem dX10_hide_2 : decode cX10_hide 2 = .ok (.invokevirtual 187, 3) := by decide +kernel
theorem dX10_hide_5 : decode cX10_hide 5 = .ok (.istore_n 2, 1) := by decide +kernel
theorem dX10_hide_6 : decode cX10_hide 6 = .ok (.aload_n 0, 1) := by decide +kernel
theorem dX10_hide_7 : decode cX10_hide 7 = .ok (.iload_n 2, 1) := by decide +kernel
theorem dX10_hide_8 : decode cX10_hide 8 = .ok (.iload_n 2, 1) := by decide +kernel
theorem dX10_hide_9 : decode cX10_hide 9 = .ok (.ifCond .eq 24, 3) := by decide +kernel
theorem dX10_hide_12 : decode cX10_hide 12 = .ok (.aload_n 0, 1) := by decide +kernel
theorem dX10_hide_13 : decode cX10_hide 13 = .ok (.getfield 20, 3) := by decide +kernel
theorem dX10_hide_16 : decode cX10_hide 16 = .ok (.iload_n 1, 1) := by decide +kernel
theorem dX10_hide_17 : decode cX10_hide 17 = .ok (.baload, 1) := by decide +kernel
theorem dX10_hide_18 : decode cX10_hide 18 = .ok (.ifCond .ne 11, 3) := by decide +kernel
theorem dX10_hide_21 : decode cX10_hide 21 = .ok (.aload_n 0, 1) := by decide +kernel
theorem dX10_hide_22 : decode cX10_hide 22 = .ok (.invokevirtual 203, 3) := by decide +kernel
theorem dX10_hide_25 : decode cX10_hide 25 = .ok (.iconst 1, 1) := by decide +kernel
theorem dX10_hide_26 : decode cX10_hide 26 = .ok (.if_icmp .le 7, 3) := by decide +kernel
theorem dX10_hide_29 : decode cX10_hide 29 = .ok (.iconst 1, 1) := by decide +kernel
theorem dX10_hide_30 : decode cX10_hide 30 = .ok (.goto 4, 3) := by decide +kernel
theorem dX10_hide_33 : decode cX10_hide 33 = .ok (.iconst 0, 1) := by decide +kernel
theorem dX10_hide_34 : decode cX10_hide 34 = .ok (.iconst 1, 1) := by decide +kernel
theorem dX10_hide_35 : decode cX10_hide 35 = .ok (.invokevirtual 175, 3) := by decide +kernel
theorem dX10_hide_38 : decode cX10_hide 38 = .ok (.ifCond .ne 5, 3) := by decide +kernel
theorem dX10_hide_41 : decode cX10_hide 41 = .ok (.iconst 0, 1) := by decide +kernel
theorem dX10_hide_42 : decode cX10_hide 42 = .ok (.ireturn, 1) := by decide +kernel
theorem dX10_hide_43 : decode cX10_hide 43 = .ok (.aload_n 0, 1) := by decide +kernel
theorem dX10_hide_44 : decode cX10_hide 44 = .ok (.getfield 20, 3) := by decide +kernel
theorem dX10_hide_47 : decode cX10_hide 47 = .ok (.iload_n 1, 1) := by decide +kernel
theorem dX10_hide_48 : decode cX10_hide 48 = .ok (.aload_n 0, 1) := by decide +kernel
theorem dX10_hide_49 : decode cX10_hide 49 = .ok (.getfield 20, 3) := by decide +kernel
theorem dX10_hide_52 : decode cX10_hide 52 = .ok (.iload_n 1, 1) := by decide +kernel
theorem dX10_hide_53 : decode cX10_hide 53 = .ok (.baload, 1) := by decide +kernel
theorem dX10_hide_54 : decode cX10_hide 54 = .ok (.ifCond .ne 7, 3) := by decide +kernel
theorem dX10_hide_57 : decode cX10_hide 57 = .ok (.iconst 1, 1) := by decide +kernel
theorem dX10_hide_58 : decode cX10_hide 58 = .ok (.goto 4, 3) := by decide +kernel
theorem dX10_hide_61 : decode cX10_hide 61 = .ok (.iconst 0, 1) := by decide +kernel
theorem dX10_hide_62 : decode cX10_hide 62 = .ok (.bastore, 1) := by decide +kernel
theorem dX10_hide_63 : decode cX10_hide 63 = .ok (.aload_n 0, 1) := by decide +kernel
theorem dX10_hide_64 : decode cX10_hide 64 = .ok (.getfield 20, 3) := by decide +kernel
theorem dX10_hide_67 : decode cX10_hide 67 = .ok (.iload_n 1, 1) := by decide +kernel
theorem dX10_hide_68 : decode cX10_hide 68 = .ok (.baload, 1) := by decide +kernel
theorem dX10_hide_69 : decode cX10_hide 69 = .ok (.ireturn, 1) := by decide +kernel
theorem dX10_shows_0 : decode cX10_shows 0 = .ok (.iconst 0, 1) := by decide +kernel
theorem dX10_shows_1 : decode cX10_shows 1 = .ok (.istore_n 2, 1) := by decide +kernel
theorem dX10_shows_2 : decode cX10_shows 2 = .ok (.iconst 0, 1) := by decide +kernel
theorem dX10_shows_3 : decode cX10_shows 3 = .ok (.istore_n 3, 1) := by decide +kernel
theorem dX10_shows_4 : decode cX10_shows 4 = .ok (.iload_n 3, 1) := by decide +kernel
theorem dX10_shows_5 : decode cX10_shows 5 = .ok (.aload_n 0, 1) := by decide +kernel
theorem dX10_shows_6 : decode cX10_shows 6 = .ok (.getfield 47, 3) := by decide +kernel
theorem dX10_shows_9 : decode cX10_shows 9 = .ok (.iload_n 1, 1) := by decide +kernel
theorem dX10_shows_10 : decode cX10_shows 10 = .ok (.iaload, 1) := by decide +kernel
theorem dX10_shows_11 : decode cX10_shows 11 = .ok (.if_icmp .ge 33, 3) := by decide +kernel
theorem dX10_shows_14 : decode cX10_shows 14 = .ok (.iload_n 2, 1) := by decide +kernel
theorem dX10_shows_15 : decode cX10_shows 15 = .ok (.aload_n 0, 1) := by decide +kernel
theorem dX10_shows_16 : decode cX10_shows 16 = .ok (.getfield 20, 3) := by decide +kernel
theorem dX10_shows_19 : decode cX10_shows 19 = .ok (.aload_n 0, 1) := by decide +kernel
theorem dX10_shows_20 : decode cX10_shows 20 = .ok (.getfield 41, 3) := by decide +kernel
theorem dX10_shows_23 : decode cX10_shows 23 = .ok (.iload_n 1, 1) := by decide +kernel
theorem dX10_shows_24 : decode cX10_shows 24 = .ok (.iaload, 1) := by decide +kernel
theorem dX10_shows_25 : decode cX10_shows 25 = .ok (.iload_n 3, 1) := by decide +kernel
theorem dX10_shows_26 : decode cX10_shows 26 = .ok (.iadd, 1) := by decide +kernel
theorem dX10_shows_27 : decode cX10_shows 27 = .ok (.baload, 1) := by decide +kernel
theorem dX10_shows_28 : decode cX10_shows 28 = .ok (.ifCond .eq 7, 3) := by decide +kernel
theorem dX10_shows_31 : decode cX10_shows 31 = .ok (.iconst 0, 1) := by decide +kernel
theorem dX10_shows_32 : decode cX10_shows 32 = .ok (.goto 4, 3) := by decide +kernel
theorem dX10_shows_35 : decode cX10_shows 35 = .ok (.iconst 1, 1) := by decide +kernel
theorem dX10_shows_36 : decode cX10_shows 36 = .ok (.iadd, 1) := by decide +kernel
theorem dX10_shows_37 : decode cX10_shows 37 = .ok (.istore_n 2, 1) := by decide +kernel
theorem dX10_shows_38 : decode cX10_shows 38 = .ok (.iinc 3 1, 3) := by decide +kernel
theorem dX10_shows_41 : decode cX10_shows 41 = .ok (.goto (-37), 3) := by decide +kernel
theorem dX10_shows_44 : decode cX10_shows 44 = .ok (.iload_n 2, 1) := by decide +kernel
theorem dX10_shows_45 : decode cX10_shows 45 = .ok (.ireturn, 1) := by decide +kernel
theorem dX10_figureOf_0 : decode cX10_figureOf 0 = .ok (.aload_n 0, 1) := by decide +kernel
theorem dX10_figureOf_1 : decode cX10_figureOf 1 = .ok (.getfield 50, 3) := by decide +kernel
theorem dX10_figureOf_4 : decode cX10_figureOf 4 = .ok (.bipush 6, 2) := by decide +kernel
theorem dX10_figureOf_6 : decode cX10_figureOf 6 = .ok (.iload_n 1, 1) := by decide +kernel
theorem dX10_figureOf_7 : decode cX10_figureOf 7 = .ok (.imul, 1) := by decide +kernel
theorem dX10_figureOf_8 : decode cX10_figureOf 8 = .ok (.iload_n 2, 1) := by decide +kernel
theorem dX10_figureOf_9 : decode cX10_figureOf 9 = .ok (.iadd, 1) := by decide +kernel
theorem dX10_figureOf_10 : decode cX10_figureOf 10 = .ok (.iaload, 1) := by decide +kernel
theorem dX10_figureOf_11 : decode cX10_figureOf 11 = .ok (.iconst 1, 1) := by decide +kernel
theorem dX10_figureOf_12 : decode cX10_figureOf 12 = .ok (.isub, 1) := by decide +kernel
theorem dX10_figureOf_13 : decode cX10_figureOf 13 = .ok (.istore_n 3, 1) := by decide +kernel
theorem dX10_figureOf_14 : decode cX10_figureOf 14 = .ok (.iload_n 3, 1) := by decide +kernel
theorem dX10_figureOf_15 : decode cX10_figureOf 15 = .ok (.ifCond .lt 25, 3) := by decide +kernel
theorem dX10_figureOf_18 : decode cX10_figureOf 18 = .ok (.aload_n 0, 1) := by decide +kernel
theorem dX10_figureOf_19 : decode cX10_figureOf 19 = .ok (.getfield 20, 3) := by decide +kernel
theorem dX10_figureOf_22 : decode cX10_figureOf 22 = .ok (.iload_n 2, 1) := by decide +kernel
theorem dX10_figureOf_23 : decode cX10_figureOf 23 = .ok (.baload, 1) := by decide +kernel
theorem dX10_figureOf_24 : decode cX10_figureOf 24 = .ok (.ifCond .ne 16, 3) := by decide +kernel
theorem dX10_figureOf_27 : decode cX10_figureOf 27 = .ok (.aload_n 0, 1) := by decide +kernel
theorem dX10_figureOf_28 : decode cX10_figureOf 28 = .ok (.getfield 62, 3) := by decide +kernel
theorem dX10_figureOf_31 : decode cX10_figureOf 31 = .ok (.iload_n 3, 1) := by decide +kernel
theorem dX10_figureOf_32 : decode cX10_figureOf 32 = .ok (.baload, 1) := by decide +kernel
theorem dX10_figureOf_33 : decode cX10_figureOf 33 = .ok (.ifCond .eq 7, 3) := by decide +kernel
theorem dX10_figureOf_36 : decode cX10_figureOf 36 = .ok (.iload_n 3, 1) := by decide +kernel
theorem dX10_figureOf_37 : decode cX10_figureOf 37 = .ok (.goto 4, 3) := by decide +kernel
theorem dX10_figureOf_40 : decode cX10_figureOf 40 = .ok (.iconst (-1), 1) := by decide +kernel
theorem dX10_figureOf_41 : decode cX10_figureOf 41 = .ok (.ireturn, 1) := by decide +kernel
theorem dX10_isBehind_0 : decode cX10_isBehind 0 = .ok (.aload_n 0, 1) := by decide +kernel
theorem dX10_isBehind_1 : decode cX10_isBehind 1 = .ok (.iload_n 1, 1) := by decide +kernel
theorem dX10_isBehind_2 : decode cX10_isBehind 2 = .ok (.iload_n 3, 1) := by decide +kernel
theorem dX10_isBehind_3 : decode cX10_isBehind 3 = .ok (.invokevirtual 207, 3) := by decide +kernel
theorem dX10_isBehind_6 : decode cX10_isBehind 6 = .ok (.istore 5, 2) := by decide +kernel
theorem dX10_isBehind_8 : decode cX10_isBehind 8 = .ok (.aload_n 0, 1) := by decide +kernel
theorem dX10_isBehind_9 : decode cX10_isBehind 9 = .ok (.iload_n 2, 1) := by decide +kernel
theorem dX10_isBehind_10 : decode cX10_isBehind 10 = .ok (.iload_n 3, 1) := by decide +kernel
theorem dX10_isBehind_11 : decode cX10_isBehind 11 = .ok (.invokevirtual 207, 3) := by decide +kernel
theorem dX10_isBehind_14 : decode cX10_isBehind 14 = .ok (.istore 6, 2) := by decide +kernel
theorem dX10_isBehind_16 : decode cX10_isBehind 16 = .ok (.iload 5, 2) := by decide +kernel
theorem dX10_isBehind_18 : decode cX10_isBehind 18 = .ok (.iconst (-1), 1) := by decide +kernel
theorem dX10_isBehind_19 : decode cX10_isBehind 19 = .ok (.if_icmp .eq 9, 3) := by decide +kernel
theorem dX10_isBehind_22 : decode cX10_isBehind 22 = .ok (.iload 6, 2) := by decide +kernel
theorem dX10_isBehind_24 : decode cX10_isBehind 24 = .ok (.iconst (-1), 1) := by decide +kernel
theorem dX10_isBehind_25 : decode cX10_isBehind 25 = .ok (.if_icmp .ne 21, 3) := by decide +kernel
theorem dX10_isBehind_28 : decode cX10_isBehind 28 = .ok (.iload 5, 2) := by decide +kernel
theorem dX10_isBehind_30 : decode cX10_isBehind 30 = .ok (.iconst (-1), 1) := by decide +kernel
theorem dX10_isBehind_31 : decode cX10_isBehind 31 = .ok (.if_icmp .ne 13, 3) := by decide +kernel
theorem dX10_isBehind_34 : decode cX10_isBehind 34 = .ok (.iload 6, 2) := by decide +kernel
theorem dX10_isBehind_36 : decode cX10_isBehind 36 = .ok (.iconst (-1), 1) := by decide +kernel
theorem dX10_isBehind_37 : decode cX10_isBehind 37 = .ok (.if_icmp .eq 7, 3) := by decide +kernel
theorem dX10_isBehind_40 : decode cX10_isBehind 40 = .ok (.iconst 1, 1) := by decide +kernel
theorem dX10_isBehind_41 : decode cX10_isBehind 41 = .ok (.goto 4, 3) := by decide +kernel
theorem dX10_isBehind_44 : decode cX10_isBehind 44 = .ok (.iconst 0, 1) := by decide +kernel
theorem dX10_isBehind_45 : decode cX10_isBehind 45 = .ok (.ireturn, 1) := by decide +kernel
theorem dX10_isBehind_46 : decode cX10_isBehind 46 = .ok (.iload 4, 2) := by decide +kernel
theorem dX10_isBehind_48 : decode cX10_isBehind 48 = .ok (.ifCond .eq 28, 3) := by decide +kernel
theorem dX10_isBehind_51 : decode cX10_isBehind 51 = .ok (.aload_n 0, 1) := by decide +kernel
theorem dX10_isBehind_52 : decode cX10_isBehind 52 = .ok (.getfield 65, 3) := by decide +kernel
theorem dX10_isBehind_55 : decode cX10_isBehind 55 = .ok (.iload 5, 2) := by decide +kernel
theorem dX10_isBehind_57 : decode cX10_isBehind 57 = .ok (.iaload, 1) := by decide +kernel
theorem dX10_isBehind_58 : decode cX10_isBehind 58 = .ok (.aload_n 0, 1) := by decide +kernel
theorem dX10_isBehind_59 : decode cX10_isBehind 59 = .ok (.getfield 65, 3) := by decide +kernel
theorem dX10_isBehind_62 : decode cX10_isBehind 62 = .ok (.iload 6, 2) := by decide +kernel
theorem dX10_isBehind_64 : decode cX10_isBehind 64 = .ok (.iaload, 1) := by decide +kernel
theorem dX10_isBehind_65 : decode cX10_isBehind 65 = .ok (.if_icmp .ge 7, 3) := by decide +kernel
theorem dX10_isBehind_68 : decode cX10_isBehind 68 = .ok (.iconst 1, 1) := by decide +kernel
theorem dX10_isBehind_69 : decode cX10_isBehind 69 = .ok (.goto 29, 3) := by decide +kernel
theorem dX10_isBehind_72 : decode cX10_isBehind 72 = .ok (.iconst 0, 1) := by decide +kernel
theorem dX10_isBehind_73 : decode cX10_isBehind 73 = .ok (.goto 25, 3) := by decide +kernel
theorem dX10_isBehind_76 : decode cX10_isBehind 76 = .ok (.aload_n 0, 1) := by decide +kernel
theorem dX10_isBehind_77 : decode cX10_isBehind 77 = .ok (.getfield 65, 3) := by decide +kernel
theorem dX10_isBehind_80 : decode cX10_isBehind 80 = .ok (.iload 5, 2) := by decide +kernel
theorem dX10_isBehind_82 : decode cX10_isBehind 82 = .ok (.iaload, 1) := by decide +kernel
theorem dX10_isBehind_83 : decode cX10_isBehind 83 = .ok (.aload_n 0, 1) := by decide +kernel
theorem dX10_isBehind_84 : decode cX10_isBehind 84 = .ok (.getfield 65, 3) := by decide +kernel
theorem dX10_isBehind_87 : decode cX10_isBehind 87 = .ok (.iload 6, 2) := by decide +kernel
theorem dX10_isBehind_89 : decode cX10_isBehind 89 = .ok (.iaload, 1) := by decide +kernel
theorem dX10_isBehind_90 : decode cX10_isBehind 90 = .ok (.if_icmp .le 7, 3) := by decide +kernel
theorem dX10_isBehind_93 : decode cX10_isBehind 93 = .ok (.iconst 1, 1) := by decide +kernel
theorem dX10_isBehind_94 : decode cX10_isBehind 94 = .ok (.goto 4, 3) := by decide +kernel
theorem dX10_isBehind_97 : decode cX10_isBehind 97 = .ok (.iconst 0, 1) := by decide +kernel
theorem dX10_isBehind_98 : decode cX10_isBehind 98 = .ok (.ireturn, 1) := by decide +kernel
theorem dX10_sort_0 : decode cX10_sort 0 = .ok (.iconst 1, 1) := by decide +kernel
theorem dX10_sort_1 : decode cX10_sort 1 = .ok (.istore_n 3, 1) := by decide +kernel
theorem dX10_sort_2 : decode cX10_sort 2 = .ok (.iconst 0, 1) := by decide +kernel
theorem dX10_sort_3 : decode cX10_sort 3 = .ok (.istore 4, 2) := by decide +kernel
theorem dX10_sort_5 : decode cX10_sort 5 = .ok (.iload 4, 2) := by decide +kernel
theorem dX10_sort_7 : decode cX10_sort 7 = .ok (.aload_n 0, 1) := by decide +kernel
theorem dX10_sort_8 : decode cX10_sort 8 = .ok (.getfield 172, 3) := by decide +kernel
theorem dX10_sort_11 : decode cX10_sort 11 = .ok (.if_icmp .ge 46, 3) := by decide +kernel
theorem dX10_sort_14 : decode cX10_sort 14 = .ok (.iload_n 3, 1) := by decide +kernel
theorem dX10_sort_15 : decode cX10_sort 15 = .ok (.ifCond .eq 34, 3) := by decide +kernel
theorem dX10_sort_18 : decode cX10_sort 18 = .ok (.aload_n 0, 1) := by decide +kernel
theorem dX10_sort_19 : decode cX10_sort 19 = .ok (.getfield 23, 3) := by decide +kernel
theorem dX10_sort_22 : decode cX10_sort 22 = .ok (.aload_n 0, 1) := by decide +kernel
theorem dX10_sort_23 : decode cX10_sort 23 = .ok (.getfield 38, 3) := by decide +kernel
theorem dX10_sort_26 : decode cX10_sort 26 = .ok (.iload 4, 2) := by decide +kernel
theorem dX10_sort_28 : decode cX10_sort 28 = .ok (.iaload, 1) := by decide +kernel
theorem dX10_sort_29 : decode cX10_sort 29 = .ok (.iaload, 1) := by decide +kernel
theorem dX10_sort_30 : decode cX10_sort 30 = .ok (.iconst 1, 1) := by decide +kernel
theorem dX10_sort_31 : decode cX10_sort 31 = .ok (.if_icmp .ne 14, 3) := by decide +kernel
theorem dX10_sort_34 : decode cX10_sort 34 = .ok (.aload_n 0, 1) := by decide +kernel
theorem dX10_sort_35 : decode cX10_sort 35 = .ok (.getfield 44, 3) := by decide +kernel
theorem dX10_sort_38 : decode cX10_sort 38 = .ok (.iload 4, 2) := by decide +kernel
theorem dX10_sort_40 : decode cX10_sort 40 = .ok (.iaload, 1) := by decide +kernel
theorem dX10_sort_41 : decode cX10_sort 41 = .ok (.iconst 1, 1) := by decide +kernel
theorem dX10_sort_42 : decode cX10_sort 42 = .ok (.if_icmp .gt 7, 3) := by decide +kernel
theorem dX10_sort_45 : decode cX10_sort 45 = .ok (.iconst 1, 1) := by decide +kernel
theorem dX10_sort_46 : decode cX10_sort 46 = .ok (.goto 4, 3) := by decide +kernel
theorem dX10_sort_49 : decode cX10_sort 49 = .ok (.iconst 0, 1) := by decide +kernel
theorem dX10_sort_50 : decode cX10_sort 50 = .ok (.istore_n 3, 1) := by decide +kernel
theorem dX10_sort_51 : decode cX10_sort 51 = .ok (.iinc 4 1, 3) := by decide +kernel
theorem dX10_sort_54 : decode cX10_sort 54 = .ok (.goto (-49), 3) := by decide +kernel
theorem dX10_sort_57 : decode cX10_sort 57 = .ok (.aload_n 0, 1) := by decide +kernel
theorem dX10_sort_58 : decode cX10_sort 58 = .ok (.aload_n 0, 1) := by decide +kernel
theorem dX10_sort_59 : decode cX10_sort 59 = .ok (.iload_n 1, 1) := by decide +kernel
theorem dX10_sort_60 : decode cX10_sort 60 = .ok (.invokevirtual 187, 3) := by decide +kernel
theorem dX10_sort_63 : decode cX10_sort 63 = .ok (.iload_n 3, 1) := by decide +kernel
theorem dX10_sort_64 : decode cX10_sort 64 = .ok (.iconst 1, 1) := by decide +kernel
theorem dX10_sort_65 : decode cX10_sort 65 = .ok (.invokevirtual 175, 3) := by decide +kernel
theorem dX10_sort_68 : decode cX10_sort 68 = .ok (.ifCond .ne 5, 3) := by decide +kernel
theorem dX10_sort_71 : decode cX10_sort 71 = .ok (.iconst 0, 1) := by decide +kernel
theorem dX10_sort_72 : decode cX10_sort 72 = .ok (.ireturn, 1) := by decide +kernel
theorem dX10_sort_73 : decode cX10_sort 73 = .ok (.iconst 0, 1) := by decide +kernel
theorem dX10_sort_74 : decode cX10_sort 74 = .ok (.istore 4, 2) := by decide +kernel
theorem dX10_sort_76 : decode cX10_sort 76 = .ok (.iload 4, 2) := by decide +kernel
theorem dX10_sort_78 : decode cX10_sort 78 = .ok (.aload_n 0, 1) := by decide +kernel
theorem dX10_sort_79 : decode cX10_sort 79 = .ok (.getfield 35, 3) := by decide +kernel
theorem dX10_sort_82 : decode cX10_sort 82 = .ok (.iconst 1, 1) := by decide +kernel
theorem dX10_sort_83 : decode cX10_sort 83 = .ok (.iaload, 1) := by decide +kernel
theorem dX10_sort_84 : decode cX10_sort 84 = .ok (.if_icmp .ge 26, 3) := by decide +kernel
theorem dX10_sort_87 : decode cX10_sort 87 = .ok (.aload_n 0, 1) := by decide +kernel
theorem dX10_sort_88 : decode cX10_sort 88 = .ok (.getfield 105, 3) := by decide +kernel
theorem dX10_sort_91 : decode cX10_sort 91 = .ok (.iload 4, 2) := by decide +kernel
theorem dX10_sort_93 : decode cX10_sort 93 = .ok (.aload_n 0, 1) := by decide +kernel
theorem dX10_sort_94 : decode cX10_sort 94 = .ok (.getfield 32, 3) := by decide +kernel
theorem dX10_sort_97 : decode cX10_sort 97 = .ok (.bipush 24, 2) := by decide +kernel
theorem dX10_sort_99 : decode cX10_sort 99 = .ok (.iload 4, 2) := by decide +kernel
theorem dX10_sort_101 : decode cX10_sort 101 = .ok (.iadd, 1) := by decide +kernel
theorem dX10_sort_102 : decode cX10_sort 102 = .ok (.iaload, 1) := by decide +kernel
theorem dX10_sort_103 : decode cX10_sort 103 = .ok (.iastore, 1) := by decide +kernel
theorem dX10_sort_104 : decode cX10_sort 104 = .ok (.iinc 4 1, 3) := by decide +kernel
theorem dX10_sort_107 : decode cX10_sort 107 = .ok (.goto (-31), 3) := by decide +kernel
theorem dX10_sort_110 : decode cX10_sort 110 = .ok (.iconst 1, 1) := by decide +kernel
theorem dX10_sort_111 : decode cX10_sort 111 = .ok (.istore 4, 2) := by decide +kernel
theorem dX10_sort_113 : decode cX10_sort 113 = .ok (.iload 4, 2) := by decide +kernel
theorem dX10_sort_115 : decode cX10_sort 115 = .ok (.aload_n 0, 1) := by decide +kernel
theorem dX10_sort_116 : decode cX10_sort 116 = .ok (.getfield 35, 3) := by decide +kernel
theorem dX10_sort_119 : decode cX10_sort 119 = .ok (.iconst 1, 1) := by decide +kernel
theorem dX10_sort_120 : decode cX10_sort 120 = .ok (.iaload, 1) := by decide +kernel
theorem dX10_sort_121 : decode cX10_sort 121 = .ok (.if_icmp .ge 93, 3) := by decide +kernel
theorem dX10_sort_124 : decode cX10_sort 124 = .ok (.aload_n 0, 1) := by decide +kernel
theorem dX10_sort_125 : decode cX10_sort 125 = .ok (.getfield 32, 3) := by decide +kernel
theorem dX10_sort_128 : decode cX10_sort 128 = .ok (.bipush 24, 2) := by decide +kernel
theorem dX10_sort_130 : decode cX10_sort 130 = .ok (.iload 4, 2) := by decide +kernel
theorem dX10_sort_132 : decode cX10_sort 132 = .ok (.iadd, 1) := by decide +kernel
theorem dX10_sort_133 : decode cX10_sort 133 = .ok (.iaload, 1) := by decide +kernel
theorem dX10_sort_134 : decode cX10_sort 134 = .ok (.istore 5, 2) := by decide +kernel
theorem dX10_sort_136 : decode cX10_sort 136 = .ok (.iload 4, 2) := by decide +kernel
theorem dX10_sort_138 : decode cX10_sort 138 = .ok (.istore 6, 2) := by decide +kernel
theorem dX10_sort_140 : decode cX10_sort 140 = .ok (.iload 6, 2) := by decide +kernel
theorem dX10_sort_142 : decode cX10_sort 142 = .ok (.ifCond .le 54, 3) := by decide +kernel
theorem dX10_sort_145 : decode cX10_sort 145 = .ok (.aload_n 0, 1) := by decide +kernel
theorem dX10_sort_146 : decode cX10_sort 146 = .ok (.aload_n 0, 1) := by decide +kernel
theorem dX10_sort_147 : decode cX10_sort 147 = .ok (.getfield 32, 3) := by decide +kernel
theorem dX10_sort_150 : decode cX10_sort 150 = .ok (.bipush 24, 2) := by decide +kernel
theorem dX10_sort_152 : decode cX10_sort 152 = .ok (.iload 6, 2) := by decide +kernel
theorem dX10_sort_154 : decode cX10_sort 154 = .ok (.iadd, 1) := by decide +kernel
theorem dX10_sort_155 : decode cX10_sort 155 = .ok (.iconst 1, 1) := by decide +kernel
theorem dX10_sort_156 : decode cX10_sort 156 = .ok (.isub, 1) := by decide +kernel
theorem dX10_sort_157 : decode cX10_sort 157 = .ok (.iaload, 1) := by decide +kernel
theorem dX10_sort_158 : decode cX10_sort 158 = .ok (.iload 5, 2) := by decide +kernel
theorem dX10_sort_160 : decode cX10_sort 160 = .ok (.iload_n 1, 1) := by decide +kernel
theorem dX10_sort_161 : decode cX10_sort 161 = .ok (.iload_n 2, 1) := by decide +kernel
theorem dX10_sort_162 : decode cX10_sort 162 = .ok (.invokevirtual 210, 3) := by decide +kernel
theorem dX10_sort_165 : decode cX10_sort 165 = .ok (.ifCond .eq 31, 3) := by decide +kernel
theorem dX10_sort_168 : decode cX10_sort 168 = .ok (.aload_n 0, 1) := by decide +kernel
theorem dX10_sort_169 : decode cX10_sort 169 = .ok (.getfield 32, 3) := by decide +kernel
theorem dX10_sort_172 : decode cX10_sort 172 = .ok (.bipush 24, 2) := by decide +kernel
theorem dX10_sort_174 : decode cX10_sort 174 = .ok (.iload 6, 2) := by decide +kernel
theorem dX10_sort_176 : decode cX10_sort 176 = .ok (.iadd, 1) := by decide +kernel
theorem dX10_sort_177 : decode cX10_sort 177 = .ok (.aload_n 0, 1) := by decide +kernel
theorem dX10_sort_178 : decode cX10_sort 178 = .ok (.getfield 32, 3) := by decide +kernel
theorem dX10_sort_181 : decode cX10_sort 181 = .ok (.bipush 24, 2) := by decide +kernel
theorem dX10_sort_183 : decode cX10_sort 183 = .ok (.iload 6, 2) := by decide +kernel
theorem dX10_sort_185 : decode cX10_sort 185 = .ok (.iadd, 1) := by decide +kernel
theorem dX10_sort_186 : decode cX10_sort 186 = .ok (.iconst 1, 1) := by decide +kernel
theorem dX10_sort_187 : decode cX10_sort 187 = .ok (.isub, 1) := by decide +kernel
theorem dX10_sort_188 : decode cX10_sort 188 = .ok (.iaload, 1) := by decide +kernel
theorem dX10_sort_189 : decode cX10_sort 189 = .ok (.iastore, 1) := by decide +kernel
theorem dX10_sort_190 : decode cX10_sort 190 = .ok (.iinc 6 (-1), 3) := by decide +kernel
theorem dX10_sort_193 : decode cX10_sort 193 = .ok (.goto (-53), 3) := by decide +kernel
theorem dX10_sort_196 : decode cX10_sort 196 = .ok (.aload_n 0, 1) := by decide +kernel
theorem dX10_sort_197 : decode cX10_sort 197 = .ok (.getfield 32, 3) := by decide +kernel
theorem dX10_sort_200 : decode cX10_sort 200 = .ok (.bipush 24, 2) := by decide +kernel
theorem dX10_sort_202 : decode cX10_sort 202 = .ok (.iload 6, 2) := by decide +kernel
theorem dX10_sort_204 : decode cX10_sort 204 = .ok (.iadd, 1) := by decide +kernel
theorem dX10_sort_205 : decode cX10_sort 205 = .ok (.iload 5, 2) := by decide +kernel
theorem dX10_sort_207 : decode cX10_sort 207 = .ok (.iastore, 1) := by decide +kernel
theorem dX10_sort_208 : decode cX10_sort 208 = .ok (.iinc 4 1, 3) := by decide +kernel
theorem dX10_sort_211 : decode cX10_sort 211 = .ok (.goto (-98), 3) := by decide +kernel
theorem dX10_sort_214 : decode cX10_sort 214 = .ok (.iconst 0, 1) := by decide +kernel
theorem dX10_sort_215 : decode cX10_sort 215 = .ok (.istore 4, 2) := by decide +kernel
theorem dX10_sort_217 : decode cX10_sort 217 = .ok (.iconst 0, 1) := by decide +kernel
theorem dX10_sort_218 : decode cX10_sort 218 = .ok (.istore 5, 2) := by decide +kernel
theorem dX10_sort_220 : decode cX10_sort 220 = .ok (.iload 5, 2) := by decide +kernel
theorem dX10_sort_222 : decode cX10_sort 222 = .ok (.aload_n 0, 1) := by decide +kernel
theorem dX10_sort_223 : decode cX10_sort 223 = .ok (.getfield 35, 3) := by decide +kernel
theorem dX10_sort_226 : decode cX10_sort 226 = .ok (.iconst 1, 1) := by decide +kernel
theorem dX10_sort_227 : decode cX10_sort 227 = .ok (.iaload, 1) := by decide +kernel
theorem dX10_sort_228 : decode cX10_sort 228 = .ok (.if_icmp .ge 39, 3) := by decide +kernel
theorem dX10_sort_231 : decode cX10_sort 231 = .ok (.iload 4, 2) := by decide +kernel
theorem dX10_sort_233 : decode cX10_sort 233 = .ok (.aload_n 0, 1) := by decide +kernel
theorem dX10_sort_234 : decode cX10_sort 234 = .ok (.getfield 105, 3) := by decide +kernel
theorem dX10_sort_237 : decode cX10_sort 237 = .ok (.iload 5, 2) := by decide +kernel
theorem dX10_sort_239 : decode cX10_sort 239 = .ok (.iaload, 1) := by decide +kernel
theorem dX10_sort_240 : decode cX10_sort 240 = .ok (.aload_n 0, 1) := by decide +kernel
theorem dX10_sort_241 : decode cX10_sort 241 = .ok (.getfield 32, 3) := by decide +kernel
theorem dX10_sort_244 : decode cX10_sort 244 = .ok (.bipush 24, 2) := by decide +kernel
theorem dX10_sort_246 : decode cX10_sort 246 = .ok (.iload 5, 2) := by decide +kernel
theorem dX10_sort_248 : decode cX10_sort 248 = .ok (.iadd, 1) := by decide +kernel
theorem dX10_sort_249 : decode cX10_sort 249 = .ok (.iaload, 1) := by decide +kernel
theorem dX10_sort_250 : decode cX10_sort 250 = .ok (.if_icmp .ne 7, 3) := by decide +kernel
theorem dX10_sort_253 : decode cX10_sort 253 = .ok (.iconst 0, 1) := by decide +kernel
theorem dX10_sort_254 : decode cX10_sort 254 = .ok (.goto 4, 3) := by decide +kernel
theorem dX10_sort_257 : decode cX10_sort 257 = .ok (.iconst 1, 1) := by decide +kernel
theorem dX10_sort_258 : decode cX10_sort 258 = .ok (.iadd, 1) := by decide +kernel
theorem dX10_sort_259 : decode cX10_sort 259 = .ok (.istore 4, 2) := by decide +kernel
theorem dX10_sort_261 : decode cX10_sort 261 = .ok (.iinc 5 1, 3) := by decide +kernel
theorem dX10_sort_264 : decode cX10_sort 264 = .ok (.goto (-44), 3) := by decide +kernel
theorem dX10_sort_267 : decode cX10_sort 267 = .ok (.iload 4, 2) := by decide +kernel
theorem dX10_sort_269 : decode cX10_sort 269 = .ok (.ireturn, 1) := by decide +kernel
theorem dX10_leastOf_0 : decode cX10_leastOf 0 = .ok (.iconst 0, 1) := by decide +kernel
theorem dX10_leastOf_1 : decode cX10_leastOf 1 = .ok (.istore_n 2, 1) := by decide +kernel
theorem dX10_leastOf_2 : decode cX10_leastOf 2 = .ok (.bipush 12, 2) := by decide +kernel
theorem dX10_leastOf_4 : decode cX10_leastOf 4 = .ok (.iload_n 1, 1) := by decide +kernel
theorem dX10_leastOf_5 : decode cX10_leastOf 5 = .ok (.imul, 1) := by decide +kernel
theorem dX10_leastOf_6 : decode cX10_leastOf 6 = .ok (.istore_n 3, 1) := by decide +kernel
theorem dX10_leastOf_7 : decode cX10_leastOf 7 = .ok (.iload_n 3, 1) := by decide +kernel
theorem dX10_leastOf_8 : decode cX10_leastOf 8 = .ok (.bipush 12, 2) := by decide +kernel
theorem dX10_leastOf_10 : decode cX10_leastOf 10 = .ok (.iload_n 1, 1) := by decide +kernel
theorem dX10_leastOf_11 : decode cX10_leastOf 11 = .ok (.imul, 1) := by decide +kernel
theorem dX10_leastOf_12 : decode cX10_leastOf 12 = .ok (.aload_n 0, 1) := by decide +kernel
theorem dX10_leastOf_13 : decode cX10_leastOf 13 = .ok (.getfield 59, 3) := by decide +kernel
theorem dX10_leastOf_16 : decode cX10_leastOf 16 = .ok (.iload_n 1, 1) := by decide +kernel
theorem dX10_leastOf_17 : decode cX10_leastOf 17 = .ok (.iaload, 1) := by decide +kernel
theorem dX10_leastOf_18 : decode cX10_leastOf 18 = .ok (.iadd, 1) := by decide +kernel
theorem dX10_leastOf_19 : decode cX10_leastOf 19 = .ok (.if_icmp .ge 78, 3) := by decide +kernel
theorem dX10_leastOf_22 : decode cX10_leastOf 22 = .ok (.aload_n 0, 1) := by decide +kernel
theorem dX10_leastOf_23 : decode cX10_leastOf 23 = .ok (.getfield 56, 3) := by decide +kernel
theorem dX10_leastOf_26 : decode cX10_leastOf 26 = .ok (.iload_n 3, 1) := by decide +kernel
theorem dX10_leastOf_27 : decode cX10_leastOf 27 = .ok (.iaload, 1) := by decide +kernel
theorem dX10_leastOf_28 : decode cX10_leastOf 28 = .ok (.istore 4, 2) := by decide +kernel
theorem dX10_leastOf_30 : decode cX10_leastOf 30 = .ok (.iload 4, 2) := by decide +kernel
theorem dX10_leastOf_32 : decode cX10_leastOf 32 = .ok (.ifCond .ne 12, 3) := by decide +kernel
theorem dX10_leastOf_35 : decode cX10_leastOf 35 = .ok (.aload_n 0, 1) := by decide +kernel
theorem dX10_leastOf_36 : decode cX10_leastOf 36 = .ok (.getfield 53, 3) := by decide +kernel
theorem dX10_leastOf_39 : decode cX10_leastOf 39 = .ok (.iload_n 3, 1) := by decide +kernel
theorem dX10_leastOf_40 : decode cX10_leastOf 40 = .ok (.iaload, 1) := by decide +kernel
theorem dX10_leastOf_41 : decode cX10_leastOf 41 = .ok (.goto 35, 3) := by decide +kernel
theorem dX10_leastOf_44 : decode cX10_leastOf 44 = .ok (.iload 4, 2) := by decide +kernel
theorem dX10_leastOf_46 : decode cX10_leastOf 46 = .ok (.iconst 1, 1) := by decide +kernel
theorem dX10_leastOf_47 : decode cX10_leastOf 47 = .ok (.iadd, 1) := by decide +kernel
theorem dX10_leastOf_48 : decode cX10_leastOf 48 = .ok (.aload_n 0, 1) := by decide +kernel
theorem dX10_leastOf_49 : decode cX10_leastOf 49 = .ok (.getfield 53, 3) := by decide +kernel
theorem dX10_leastOf_52 : decode cX10_leastOf 52 = .ok (.iload_n 3, 1) := by decide +kernel
theorem dX10_leastOf_53 : decode cX10_leastOf 53 = .ok (.iaload, 1) := by decide +kernel
theorem dX10_leastOf_54 : decode cX10_leastOf 54 = .ok (.iload 4, 2) := by decide +kernel
theorem dX10_leastOf_56 : decode cX10_leastOf 56 = .ok (.isub, 1) := by decide +kernel
theorem dX10_leastOf_57 : decode cX10_leastOf 57 = .ok (.if_icmp .le 10, 3) := by decide +kernel
theorem dX10_leastOf_60 : decode cX10_leastOf 60 = .ok (.iload 4, 2) := by decide +kernel
theorem dX10_leastOf_62 : decode cX10_leastOf 62 = .ok (.iconst 1, 1) := by decide +kernel
theorem dX10_leastOf_63 : decode cX10_leastOf 63 = .ok (.iadd, 1) := by decide +kernel
theorem dX10_leastOf_64 : decode cX10_leastOf 64 = .ok (.goto 12, 3) := by decide +kernel
theorem dX10_leastOf_67 : decode cX10_leastOf 67 = .ok (.aload_n 0, 1) := by decide +kernel
theorem dX10_leastOf_68 : decode cX10_leastOf 68 = .ok (.getfield 53, 3) := by decide +kernel
theorem dX10_leastOf_71 : decode cX10_leastOf 71 = .ok (.iload_n 3, 1) := by decide +kernel
theorem dX10_leastOf_72 : decode cX10_leastOf 72 = .ok (.iaload, 1) := by decide +kernel
theorem dX10_leastOf_73 : decode cX10_leastOf 73 = .ok (.iload 4, 2) := by decide +kernel
theorem dX10_leastOf_75 : decode cX10_leastOf 75 = .ok (.isub, 1) := by decide +kernel
theorem dX10_leastOf_76 : decode cX10_leastOf 76 = .ok (.istore 5, 2) := by decide +kernel
theorem dX10_leastOf_78 : decode cX10_leastOf 78 = .ok (.iload 5, 2) := by decide +kernel
theorem dX10_leastOf_80 : decode cX10_leastOf 80 = .ok (.iload_n 2, 1) := by decide +kernel
theorem dX10_leastOf_81 : decode cX10_leastOf 81 = .ok (.if_icmp .le 8, 3) := by decide +kernel
theorem dX10_leastOf_84 : decode cX10_leastOf 84 = .ok (.iload 5, 2) := by decide +kernel
theorem dX10_leastOf_86 : decode cX10_leastOf 86 = .ok (.goto 4, 3) := by decide +kernel
theorem dX10_leastOf_89 : decode cX10_leastOf 89 = .ok (.iload_n 2, 1) := by decide +kernel
theorem dX10_leastOf_90 : decode cX10_leastOf 90 = .ok (.istore_n 2, 1) := by decide +kernel
theorem dX10_leastOf_91 : decode cX10_leastOf 91 = .ok (.iinc 3 1, 3) := by decide +kernel
theorem dX10_leastOf_94 : decode cX10_leastOf 94 = .ok (.goto (-87), 3) := by decide +kernel
theorem dX10_leastOf_97 : decode cX10_leastOf 97 = .ok (.iload_n 2, 1) := by decide +kernel
theorem dX10_leastOf_98 : decode cX10_leastOf 98 = .ok (.ireturn, 1) := by decide +kernel
theorem dX10_mostOf_0 : decode cX10_mostOf 0 = .ok (.aload_n 0, 1) := by decide +kernel
theorem dX10_mostOf_1 : decode cX10_mostOf 1 = .ok (.getfield 59, 3) := by decide +kernel
theorem dX10_mostOf_4 : decode cX10_mostOf 4 = .ok (.iload_n 1, 1) := by decide +kernel
theorem dX10_mostOf_5 : decode cX10_mostOf 5 = .ok (.iaload, 1) := by decide +kernel
theorem dX10_mostOf_6 : decode cX10_mostOf 6 = .ok (.ifCond .le 14, 3) := by decide +kernel
theorem dX10_mostOf_9 : decode cX10_mostOf 9 = .ok (.aload_n 0, 1) := by decide +kernel
theorem dX10_mostOf_10 : decode cX10_mostOf 10 = .ok (.getfield 59, 3) := by decide +kernel
theorem dX10_mostOf_13 : decode cX10_mostOf 13 = .ok (.iload_n 1, 1) := by decide +kernel
theorem dX10_mostOf_14 : decode cX10_mostOf 14 = .ok (.iaload, 1) := by decide +kernel
theorem dX10_mostOf_15 : decode cX10_mostOf 15 = .ok (.iconst 1, 1) := by decide +kernel
theorem dX10_mostOf_16 : decode cX10_mostOf 16 = .ok (.isub, 1) := by decide +kernel
theorem dX10_mostOf_17 : decode cX10_mostOf 17 = .ok (.goto 4, 3) := by decide +kernel
theorem dX10_mostOf_20 : decode cX10_mostOf 20 = .ok (.iconst 0, 1) := by decide +kernel
theorem dX10_mostOf_21 : decode cX10_mostOf 21 = .ok (.istore_n 2, 1) := by decide +kernel
theorem dX10_mostOf_22 : decode cX10_mostOf 22 = .ok (.bipush 12, 2) := by decide +kernel
theorem dX10_mostOf_24 : decode cX10_mostOf 24 = .ok (.iload_n 1, 1) := by decide +kernel
theorem dX10_mostOf_25 : decode cX10_mostOf 25 = .ok (.imul, 1) := by decide +kernel
theorem dX10_mostOf_26 : decode cX10_mostOf 26 = .ok (.istore_n 3, 1) := by decide +kernel
theorem dX10_mostOf_27 : decode cX10_mostOf 27 = .ok (.iload_n 3, 1) := by decide +kernel
theorem dX10_mostOf_28 : decode cX10_mostOf 28 = .ok (.bipush 12, 2) := by decide +kernel
theorem dX10_mostOf_30 : decode cX10_mostOf 30 = .ok (.iload_n 1, 1) := by decide +kernel
theorem dX10_mostOf_31 : decode cX10_mostOf 31 = .ok (.imul, 1) := by decide +kernel
theorem dX10_mostOf_32 : decode cX10_mostOf 32 = .ok (.aload_n 0, 1) := by decide +kernel
theorem dX10_mostOf_33 : decode cX10_mostOf 33 = .ok (.getfield 59, 3) := by decide +kernel
theorem dX10_mostOf_36 : decode cX10_mostOf 36 = .ok (.iload_n 1, 1) := by decide +kernel
theorem dX10_mostOf_37 : decode cX10_mostOf 37 = .ok (.iaload, 1) := by decide +kernel
theorem dX10_mostOf_38 : decode cX10_mostOf 38 = .ok (.iadd, 1) := by decide +kernel
theorem dX10_mostOf_39 : decode cX10_mostOf 39 = .ok (.if_icmp .ge 18, 3) := by decide +kernel
theorem dX10_mostOf_42 : decode cX10_mostOf 42 = .ok (.iload_n 2, 1) := by decide +kernel
theorem dX10_mostOf_43 : decode cX10_mostOf 43 = .ok (.aload_n 0, 1) := by decide +kernel
theorem dX10_mostOf_44 : decode cX10_mostOf 44 = .ok (.getfield 53, 3) := by decide +kernel
theorem dX10_mostOf_47 : decode cX10_mostOf 47 = .ok (.iload_n 3, 1) := by decide +kernel
theorem dX10_mostOf_48 : decode cX10_mostOf 48 = .ok (.iaload, 1) := by decide +kernel
theorem dX10_mostOf_49 : decode cX10_mostOf 49 = .ok (.iadd, 1) := by decide +kernel
theorem dX10_mostOf_50 : decode cX10_mostOf 50 = .ok (.istore_n 2, 1) := by decide +kernel
theorem dX10_mostOf_51 : decode cX10_mostOf 51 = .ok (.iinc 3 1, 3) := by decide +kernel
theorem dX10_mostOf_54 : decode cX10_mostOf 54 = .ok (.goto (-27), 3) := by decide +kernel
theorem dX10_mostOf_57 : decode cX10_mostOf 57 = .ok (.iload_n 2, 1) := by decide +kernel
theorem dX10_mostOf_58 : decode cX10_mostOf 58 = .ok (.ireturn, 1) := by decide +kernel
theorem dX10_leftOf_0 : decode cX10_leftOf 0 = .ok (.iload_n 0, 1) := by decide +kernel
theorem dX10_leftOf_1 : decode cX10_leftOf 1 = .ok (.ifCond .ge 7, 3) := by decide +kernel
theorem dX10_leftOf_4 : decode cX10_leftOf 4 = .ok (.iconst 2, 1) := by decide +kernel
theorem dX10_leftOf_5 : decode cX10_leftOf 5 = .ok (.goto 4, 3) := by decide +kernel
theorem dX10_leftOf_8 : decode cX10_leftOf 8 = .ok (.iconst 1, 1) := by decide +kernel
theorem dX10_leftOf_9 : decode cX10_leftOf 9 = .ok (.istore_n 1, 1) := by decide +kernel
theorem dX10_leftOf_10 : decode cX10_leftOf 10 = .ok (.iload_n 0, 1) := by decide +kernel
theorem dX10_leftOf_11 : decode cX10_leftOf 11 = .ok (.ifCond .ge 8, 3) := by decide +kernel
theorem dX10_leftOf_14 : decode cX10_leftOf 14 = .ok (.iload_n 0, 1) := by decide +kernel
theorem dX10_leftOf_15 : decode cX10_leftOf 15 = .ok (.ineg, 1) := by decide +kernel
theorem dX10_leftOf_16 : decode cX10_leftOf 16 = .ok (.goto 4, 3) := by decide +kernel
theorem dX10_leftOf_19 : decode cX10_leftOf 19 = .ok (.iload_n 0, 1) := by decide +kernel
theorem dX10_leftOf_20 : decode cX10_leftOf 20 = .ok (.bipush 100, 2) := by decide +kernel
theorem dX10_leftOf_22 : decode cX10_leftOf 22 = .ok (.idiv, 1) := by decide +kernel
theorem dX10_leftOf_23 : decode cX10_leftOf 23 = .ok (.istore_n 2, 1) := by decide +kernel
theorem dX10_leftOf_24 : decode cX10_leftOf 24 = .ok (.iload_n 2, 1) := by decide +kernel
theorem dX10_leftOf_25 : decode cX10_leftOf 25 = .ok (.bipush 9, 2) := by decide +kernel
theorem dX10_leftOf_27 : decode cX10_leftOf 27 = .ok (.if_icmp .le 14, 3) := by decide +kernel
theorem dX10_leftOf_30 : decode cX10_leftOf 30 = .ok (.iload_n 2, 1) := by decide +kernel
theorem dX10_leftOf_31 : decode cX10_leftOf 31 = .ok (.bipush 10, 2) := by decide +kernel
theorem dX10_leftOf_33 : decode cX10_leftOf 33 = .ok (.idiv, 1) := by decide +kernel
theorem dX10_leftOf_34 : decode cX10_leftOf 34 = .ok (.istore_n 2, 1) := by decide +kernel
theorem dX10_leftOf_35 : decode cX10_leftOf 35 = .ok (.iinc 1 1, 3) := by decide +kernel
theorem dX10_leftOf_38 : decode cX10_leftOf 38 = .ok (.goto (-14), 3) := by decide +kernel
theorem dX10_leftOf_41 : decode cX10_leftOf 41 = .ok (.iload_n 1, 1) := by decide +kernel
theorem dX10_leftOf_42 : decode cX10_leftOf 42 = .ok (.ireturn, 1) := by decide +kernel
theorem dX10_rightOf_0 : decode cX10_rightOf 0 = .ok (.aload_n 0, 1) := by decide +kernel
theorem dX10_rightOf_1 : decode cX10_rightOf 1 = .ok (.getfield 68, 3) := by decide +kernel
theorem dX10_rightOf_4 : decode cX10_rightOf 4 = .ok (.iload_n 1, 1) := by decide +kernel
theorem dX10_rightOf_5 : decode cX10_rightOf 5 = .ok (.iaload, 1) := by decide +kernel
theorem dX10_rightOf_6 : decode cX10_rightOf 6 = .ok (.ifCond .le 14, 3) := by decide +kernel
theorem dX10_rightOf_9 : decode cX10_rightOf 9 = .ok (.aload_n 0, 1) := by decide +kernel
theorem dX10_rightOf_10 : decode cX10_rightOf 10 = .ok (.getfield 68, 3) := by decide +kernel
theorem dX10_rightOf_13 : decode cX10_rightOf 13 = .ok (.iload_n 1, 1) := by decide +kernel
theorem dX10_rightOf_14 : decode cX10_rightOf 14 = .ok (.iaload, 1) := by decide +kernel
theorem dX10_rightOf_15 : decode cX10_rightOf 15 = .ok (.iconst 1, 1) := by decide +kernel
theorem dX10_rightOf_16 : decode cX10_rightOf 16 = .ok (.iadd, 1) := by decide +kernel
theorem dX10_rightOf_17 : decode cX10_rightOf 17 = .ok (.goto 4, 3) := by decide +kernel
theorem dX10_rightOf_20 : decode cX10_rightOf 20 = .ok (.iconst 0, 1) := by decide +kernel
theorem dX10_rightOf_21 : decode cX10_rightOf 21 = .ok (.aload_n 0, 1) := by decide +kernel
theorem dX10_rightOf_22 : decode cX10_rightOf 22 = .ok (.getfield 71, 3) := by decide +kernel
theorem dX10_rightOf_25 : decode cX10_rightOf 25 = .ok (.iload_n 1, 1) := by decide +kernel
theorem dX10_rightOf_26 : decode cX10_rightOf 26 = .ok (.iaload, 1) := by decide +kernel
theorem dX10_rightOf_27 : decode cX10_rightOf 27 = .ok (.ifCond .le 7, 3) := by decide +kernel
theorem dX10_rightOf_30 : decode cX10_rightOf 30 = .ok (.iconst 1, 1) := by decide +kernel
theorem dX10_rightOf_31 : decode cX10_rightOf 31 = .ok (.goto 4, 3) := by decide +kernel
theorem dX10_rightOf_34 : decode cX10_rightOf 34 = .ok (.iconst 0, 1) := by decide +kernel
theorem dX10_rightOf_35 : decode cX10_rightOf 35 = .ok (.iadd, 1) := by decide +kernel
theorem dX10_rightOf_36 : decode cX10_rightOf 36 = .ok (.ireturn, 1) := by decide +kernel
theorem dX10_greater_0 : decode cX10_greater 0 = .ok (.iload_n 0, 1) := by decide +kernel
theorem dX10_greater_1 : decode cX10_greater 1 = .ok (.iload_n 1, 1) := by decide +kernel
theorem dX10_greater_2 : decode cX10_greater 2 = .ok (.if_icmp .le 7, 3) := by decide +kernel
theorem dX10_greater_5 : decode cX10_greater 5 = .ok (.iload_n 0, 1) := by decide +kernel
theorem dX10_greater_6 : decode cX10_greater 6 = .ok (.goto 4, 3) := by decide +kernel
theorem dX10_greater_9 : decode cX10_greater 9 = .ok (.iload_n 1, 1) := by decide +kernel
theorem dX10_greater_10 : decode cX10_greater 10 = .ok (.ireturn, 1) := by decide +kernel
theorem dX10_laysFigures_0 : decode cX10_laysFigures 0 = .ok (.iconst 0, 1) := by decide +kernel
theorem dX10_laysFigures_1 : decode cX10_laysFigures 1 = .ok (.istore_n 2, 1) := by decide +kernel
theorem dX10_laysFigures_2 : decode cX10_laysFigures 2 = .ok (.iconst 0, 1) := by decide +kernel
theorem dX10_laysFigures_3 : decode cX10_laysFigures 3 = .ok (.istore_n 3, 1) := by decide +kernel
theorem dX10_laysFigures_4 : decode cX10_laysFigures 4 = .ok (.iconst 0, 1) := by decide +kernel
theorem dX10_laysFigures_5 : decode cX10_laysFigures 5 = .ok (.istore 4, 2) := by decide +kernel
theorem dX10_laysFigures_7 : decode cX10_laysFigures 7 = .ok (.aload_n 0, 1) := by decide +kernel
theorem dX10_laysFigures_8 : decode cX10_laysFigures 8 = .ok (.getfield 90, 3) := by decide +kernel
theorem dX10_laysFigures_11 : decode cX10_laysFigures 11 = .ok (.iload_n 1, 1) := by decide +kernel
theorem dX10_laysFigures_12 : decode cX10_laysFigures 12 = .ok (.iconst 0, 1) := by decide +kernel
theorem dX10_laysFigures_13 : decode cX10_laysFigures 13 = .ok (.iastore, 1) := by decide +kernel
theorem dX10_laysFigures_14 : decode cX10_laysFigures 14 = .ok (.aload_n 0, 1) := by decide +kernel
theorem dX10_laysFigures_15 : decode cX10_laysFigures 15 = .ok (.getfield 93, 3) := by decide +kernel
theorem dX10_laysFigures_18 : decode cX10_laysFigures 18 = .ok (.iload_n 1, 1) := by decide +kernel
theorem dX10_laysFigures_19 : decode cX10_laysFigures 19 = .ok (.iconst 0, 1) := by decide +kernel
theorem dX10_laysFigures_20 : decode cX10_laysFigures 20 = .ok (.iastore, 1) := by decide +kernel
theorem dX10_laysFigures_21 : decode cX10_laysFigures 21 = .ok (.iconst 0, 1) := by decide +kernel
theorem dX10_laysFigures_22 : decode cX10_laysFigures 22 = .ok (.istore 5, 2) := by decide +kernel
theorem dX10_laysFigures_24 : decode cX10_laysFigures 24 = .ok (.iload 5, 2) := by decide +kernel
theorem dX10_laysFigures_26 : decode cX10_laysFigures 26 = .ok (.aload_n 0, 1) := by decide +kernel
theorem dX10_laysFigures_27 : decode cX10_laysFigures 27 = .ok (.getfield 169, 3) := by decide +kernel
theorem dX10_laysFigures_30 : decode cX10_laysFigures 30 = .ok (.if_icmp .ge 143, 3) := by decide +kernel
theorem dX10_laysFigures_33 : decode cX10_laysFigures 33 = .ok (.aload_n 0, 1) := by decide +kernel
theorem dX10_laysFigures_34 : decode cX10_laysFigures 34 = .ok (.iload 5, 2) := by decide +kernel
theorem dX10_laysFigures_36 : decode cX10_laysFigures 36 = .ok (.iload_n 1, 1) := by decide +kernel
theorem dX10_laysFigures_37 : decode cX10_laysFigures 37 = .ok (.invokevirtual 207, 3) := by decide +kernel
theorem dX10_laysFigures_40 : decode cX10_laysFigures 40 = .ok (.istore 6, 2) := by decide +kernel
theorem dX10_laysFigures_42 : decode cX10_laysFigures 42 = .ok (.iload 6, 2) := by decide +kernel
theorem dX10_laysFigures_44 : decode cX10_laysFigures 44 = .ok (.iconst (-1), 1) := by decide +kernel
theorem dX10_laysFigures_45 : decode cX10_laysFigures 45 = .ok (.if_icmp .eq 122, 3) := by decide +kernel
theorem dX10_laysFigures_48 : decode cX10_laysFigures 48 = .ok (.iconst 1, 1) := by decide +kernel
theorem dX10_laysFigures_49 : decode cX10_laysFigures 49 = .ok (.istore 4, 2) := by decide +kernel
theorem dX10_laysFigures_51 : decode cX10_laysFigures 51 = .ok (.aload_n 0, 1) := by decide +kernel
theorem dX10_laysFigures_52 : decode cX10_laysFigures 52 = .ok (.getfield 90, 3) := by decide +kernel
theorem dX10_laysFigures_55 : decode cX10_laysFigures 55 = .ok (.iload_n 1, 1) := by decide +kernel
theorem dX10_laysFigures_56 : decode cX10_laysFigures 56 = .ok (.aload_n 0, 1) := by decide +kernel
theorem dX10_laysFigures_57 : decode cX10_laysFigures 57 = .ok (.getfield 90, 3) := by decide +kernel
theorem dX10_laysFigures_60 : decode cX10_laysFigures 60 = .ok (.iload_n 1, 1) := by decide +kernel
theorem dX10_laysFigures_61 : decode cX10_laysFigures 61 = .ok (.iaload, 1) := by decide +kernel
theorem dX10_laysFigures_62 : decode cX10_laysFigures 62 = .ok (.aload_n 0, 1) := by decide +kernel
theorem dX10_laysFigures_63 : decode cX10_laysFigures 63 = .ok (.getfield 65, 3) := by decide +kernel
theorem dX10_laysFigures_66 : decode cX10_laysFigures 66 = .ok (.iload 6, 2) := by decide +kernel
theorem dX10_laysFigures_68 : decode cX10_laysFigures 68 = .ok (.iaload, 1) := by decide +kernel
theorem dX10_laysFigures_69 : decode cX10_laysFigures 69 = .ok (.invokestatic 214, 3) := by decide +kernel
theorem dX10_laysFigures_72 : decode cX10_laysFigures 72 = .ok (.invokestatic 217, 3) := by decide +kernel
theorem dX10_laysFigures_75 : decode cX10_laysFigures 75 = .ok (.iastore, 1) := by decide +kernel
theorem dX10_laysFigures_76 : decode cX10_laysFigures 76 = .ok (.aload_n 0, 1) := by decide +kernel
theorem dX10_laysFigures_77 : decode cX10_laysFigures 77 = .ok (.getfield 93, 3) := by decide +kernel
theorem dX10_laysFigures_80 : decode cX10_laysFigures 80 = .ok (.iload_n 1, 1) := by decide +kernel
theorem dX10_laysFigures_81 : decode cX10_laysFigures 81 = .ok (.aload_n 0, 1) := by decide +kernel
theorem dX10_laysFigures_82 : decode cX10_laysFigures 82 = .ok (.getfield 93, 3) := by decide +kernel
theorem dX10_laysFigures_85 : decode cX10_laysFigures 85 = .ok (.iload_n 1, 1) := by decide +kernel
theorem dX10_laysFigures_86 : decode cX10_laysFigures 86 = .ok (.iaload, 1) := by decide +kernel
theorem dX10_laysFigures_87 : decode cX10_laysFigures 87 = .ok (.aload_n 0, 1) := by decide +kernel
theorem dX10_laysFigures_88 : decode cX10_laysFigures 88 = .ok (.iload 6, 2) := by decide +kernel
theorem dX10_laysFigures_90 : decode cX10_laysFigures 90 = .ok (.invokevirtual 220, 3) := by decide +kernel
theorem dX10_laysFigures_93 : decode cX10_laysFigures 93 = .ok (.invokestatic 217, 3) := by decide +kernel
theorem dX10_laysFigures_96 : decode cX10_laysFigures 96 = .ok (.iastore, 1) := by decide +kernel
theorem dX10_laysFigures_97 : decode cX10_laysFigures 97 = .ok (.iload_n 2, 1) := by decide +kernel
theorem dX10_laysFigures_98 : decode cX10_laysFigures 98 = .ok (.aload_n 0, 1) := by decide +kernel
theorem dX10_laysFigures_99 : decode cX10_laysFigures 99 = .ok (.getfield 23, 3) := by decide +kernel
theorem dX10_laysFigures_102 : decode cX10_laysFigures 102 = .ok (.iload 5, 2) := by decide +kernel
theorem dX10_laysFigures_104 : decode cX10_laysFigures 104 = .ok (.iaload, 1) := by decide +kernel
theorem dX10_laysFigures_105 : decode cX10_laysFigures 105 = .ok (.iconst 1, 1) := by decide +kernel
theorem dX10_laysFigures_106 : decode cX10_laysFigures 106 = .ok (.if_icmp .ne 23, 3) := by decide +kernel
theorem dX10_laysFigures_109 : decode cX10_laysFigures 109 = .ok (.aload_n 0, 1) := by decide +kernel
theorem dX10_laysFigures_110 : decode cX10_laysFigures 110 = .ok (.getfield 65, 3) := by decide +kernel
theorem dX10_laysFigures_113 : decode cX10_laysFigures 113 = .ok (.iload 6, 2) := by decide +kernel
theorem dX10_laysFigures_115 : decode cX10_laysFigures 115 = .ok (.iaload, 1) := by decide +kernel
theorem dX10_laysFigures_116 : decode cX10_laysFigures 116 = .ok (.ifCond .le 13, 3) := by decide +kernel
theorem dX10_laysFigures_119 : decode cX10_laysFigures 119 = .ok (.aload_n 0, 1) := by decide +kernel
theorem dX10_laysFigures_120 : decode cX10_laysFigures 120 = .ok (.getfield 65, 3) := by decide +kernel
theorem dX10_laysFigures_123 : decode cX10_laysFigures 123 = .ok (.iload 6, 2) := by decide +kernel
theorem dX10_laysFigures_125 : decode cX10_laysFigures 125 = .ok (.iaload, 1) := by decide +kernel
theorem dX10_laysFigures_126 : decode cX10_laysFigures 126 = .ok (.goto 4, 3) := by decide +kernel
theorem dX10_laysFigures_129 : decode cX10_laysFigures 129 = .ok (.iconst 0, 1) := by decide +kernel
theorem dX10_laysFigures_130 : decode cX10_laysFigures 130 = .ok (.iadd, 1) := by decide +kernel
theorem dX10_laysFigures_131 : decode cX10_laysFigures 131 = .ok (.istore_n 2, 1) := by decide +kernel
theorem dX10_laysFigures_132 : decode cX10_laysFigures 132 = .ok (.iload_n 3, 1) := by decide +kernel
theorem dX10_laysFigures_133 : decode cX10_laysFigures 133 = .ok (.aload_n 0, 1) := by decide +kernel
theorem dX10_laysFigures_134 : decode cX10_laysFigures 134 = .ok (.getfield 23, 3) := by decide +kernel
theorem dX10_laysFigures_137 : decode cX10_laysFigures 137 = .ok (.iload 5, 2) := by decide +kernel
theorem dX10_laysFigures_139 : decode cX10_laysFigures 139 = .ok (.iaload, 1) := by decide +kernel
theorem dX10_laysFigures_140 : decode cX10_laysFigures 140 = .ok (.iconst 1, 1) := by decide +kernel
theorem dX10_laysFigures_141 : decode cX10_laysFigures 141 = .ok (.if_icmp .ne 23, 3) := by decide +kernel
theorem dX10_laysFigures_144 : decode cX10_laysFigures 144 = .ok (.aload_n 0, 1) := by decide +kernel
theorem dX10_laysFigures_145 : decode cX10_laysFigures 145 = .ok (.getfield 65, 3) := by decide +kernel
theorem dX10_laysFigures_148 : decode cX10_laysFigures 148 = .ok (.iload 6, 2) := by decide +kernel
theorem dX10_laysFigures_150 : decode cX10_laysFigures 150 = .ok (.iaload, 1) := by decide +kernel
theorem dX10_laysFigures_151 : decode cX10_laysFigures 151 = .ok (.ifCond .ge 13, 3) := by decide +kernel
theorem dX10_laysFigures_154 : decode cX10_laysFigures 154 = .ok (.aload_n 0, 1) := by decide +kernel
theorem dX10_laysFigures_155 : decode cX10_laysFigures 155 = .ok (.getfield 65, 3) := by decide +kernel
theorem dX10_laysFigures_158 : decode cX10_laysFigures 158 = .ok (.iload 6, 2) := by decide +kernel
theorem dX10_laysFigures_160 : decode cX10_laysFigures 160 = .ok (.iaload, 1) := by decide +kernel
theorem dX10_laysFigures_161 : decode cX10_laysFigures 161 = .ok (.goto 4, 3) := by decide +kernel
theorem dX10_laysFigures_164 : decode cX10_laysFigures 164 = .ok (.iconst 0, 1) := by decide +kernel
theorem dX10_laysFigures_165 : decode cX10_laysFigures 165 = .ok (.iadd, 1) := by decide +kernel
theorem dX10_laysFigures_166 : decode cX10_laysFigures 166 = .ok (.istore_n 3, 1) := by decide +kernel
theorem dX10_laysFigures_167 : decode cX10_laysFigures 167 = .ok (.iinc 5 1, 3) := by decide +kernel
theorem dX10_laysFigures_170 : decode cX10_laysFigures 170 = .ok (.goto (-146), 3) := by decide +kernel
theorem dX10_laysFigures_173 : decode cX10_laysFigures 173 = .ok (.iload 4, 2) := by decide +kernel
theorem dX10_laysFigures_175 : decode cX10_laysFigures 175 = .ok (.ifCond .eq 38, 3) := by decide +kernel
theorem dX10_laysFigures_178 : decode cX10_laysFigures 178 = .ok (.aload_n 0, 1) := by decide +kernel
theorem dX10_laysFigures_179 : decode cX10_laysFigures 179 = .ok (.getfield 16, 3) := by decide +kernel
theorem dX10_laysFigures_182 : decode cX10_laysFigures 182 = .ok (.iload_n 1, 1) := by decide +kernel
theorem dX10_laysFigures_183 : decode cX10_laysFigures 183 = .ok (.baload, 1) := by decide +kernel
theorem dX10_laysFigures_184 : decode cX10_laysFigures 184 = .ok (.ifCond .eq 29, 3) := by decide +kernel
theorem dX10_laysFigures_187 : decode cX10_laysFigures 187 = .ok (.aload_n 0, 1) := by decide +kernel
theorem dX10_laysFigures_188 : decode cX10_laysFigures 188 = .ok (.getfield 90, 3) := by decide +kernel
theorem dX10_laysFigures_191 : decode cX10_laysFigures 191 = .ok (.iload_n 1, 1) := by decide +kernel
theorem dX10_laysFigures_192 : decode cX10_laysFigures 192 = .ok (.aload_n 0, 1) := by decide +kernel
theorem dX10_laysFigures_193 : decode cX10_laysFigures 193 = .ok (.getfield 90, 3) := by decide +kernel
theorem dX10_laysFigures_196 : decode cX10_laysFigures 196 = .ok (.iload_n 1, 1) := by decide +kernel
theorem dX10_laysFigures_197 : decode cX10_laysFigures 197 = .ok (.iaload, 1) := by decide +kernel
theorem dX10_laysFigures_198 : decode cX10_laysFigures 198 = .ok (.iload_n 2, 1) := by decide +kernel
theorem dX10_laysFigures_199 : decode cX10_laysFigures 199 = .ok (.invokestatic 214, 3) := by decide +kernel
theorem dX10_laysFigures_202 : decode cX10_laysFigures 202 = .ok (.iload_n 3, 1) := by decide +kernel
theorem dX10_laysFigures_203 : decode cX10_laysFigures 203 = .ok (.invokestatic 214, 3) := by decide +kernel
theorem dX10_laysFigures_206 : decode cX10_laysFigures 206 = .ok (.invokestatic 217, 3) := by decide +kernel
theorem dX10_laysFigures_209 : decode cX10_laysFigures 209 = .ok (.invokestatic 217, 3) := by decide +kernel
theorem dX10_laysFigures_212 : decode cX10_laysFigures 212 = .ok (.iastore, 1) := by decide +kernel
theorem dX10_laysFigures_213 : decode cX10_laysFigures 213 = .ok (.return_, 1) := by decide +kernel
theorem dX10_across_0 : decode cX10_across 0 = .ok (.aload_n 0, 1) := by decide +kernel
theorem dX10_across_1 : decode cX10_across 1 = .ok (.iload_n 1, 1) := by decide +kernel
theorem dX10_across_2 : decode cX10_across 2 = .ok (.invokevirtual 223, 3) := by decide +kernel
theorem dX10_across_5 : decode cX10_across 5 = .ok (.iconst 1, 1) := by decide +kernel
theorem dX10_across_6 : decode cX10_across 6 = .ok (.isub, 1) := by decide +kernel
theorem dX10_across_7 : decode cX10_across 7 = .ok (.istore_n 3, 1) := by decide +kernel
theorem dX10_across_8 : decode cX10_across 8 = .ok (.aload_n 0, 1) := by decide +kernel
theorem dX10_across_9 : decode cX10_across 9 = .ok (.getfield 41, 3) := by decide +kernel
theorem dX10_across_12 : decode cX10_across 12 = .ok (.iload_n 1, 1) := by decide +kernel
theorem dX10_across_13 : decode cX10_across 13 = .ok (.iaload, 1) := by decide +kernel
theorem dX10_across_14 : decode cX10_across 14 = .ok (.istore 4, 2) := by decide +kernel
theorem dX10_across_16 : decode cX10_across 16 = .ok (.iload 4, 2) := by decide +kernel
theorem dX10_across_18 : decode cX10_across 18 = .ok (.aload_n 0, 1) := by decide +kernel
theorem dX10_across_19 : decode cX10_across 19 = .ok (.getfield 41, 3) := by decide +kernel
theorem dX10_across_22 : decode cX10_across 22 = .ok (.iload_n 1, 1) := by decide +kernel
theorem dX10_across_23 : decode cX10_across 23 = .ok (.iaload, 1) := by decide +kernel
theorem dX10_across_24 : decode cX10_across 24 = .ok (.aload_n 0, 1) := by decide +kernel
theorem dX10_across_25 : decode cX10_across 25 = .ok (.getfield 47, 3) := by decide +kernel
theorem dX10_across_28 : decode cX10_across 28 = .ok (.iload_n 1, 1) := by decide +kernel
theorem dX10_across_29 : decode cX10_across 29 = .ok (.iaload, 1) := by decide +kernel
theorem dX10_across_30 : decode cX10_across 30 = .ok (.iadd, 1) := by decide +kernel
theorem dX10_across_31 : decode cX10_across 31 = .ok (.if_icmp .ge 30, 3) := by decide +kernel
theorem dX10_across_34 : decode cX10_across 34 = .ok (.iload_n 3, 1) := by decide +kernel
theorem dX10_across_35 : decode cX10_across 35 = .ok (.aload_n 0, 1) := by decide +kernel
theorem dX10_across_36 : decode cX10_across 36 = .ok (.getfield 20, 3) := by decide +kernel
theorem dX10_across_39 : decode cX10_across 39 = .ok (.iload 4, 2) := by decide +kernel
theorem dX10_across_41 : decode cX10_across 41 = .ok (.baload, 1) := by decide +kernel
theorem dX10_across_42 : decode cX10_across 42 = .ok (.ifCond .eq 7, 3) := by decide +kernel
theorem dX10_across_45 : decode cX10_across 45 = .ok (.iconst 0, 1) := by decide +kernel
theorem dX10_across_46 : decode cX10_across 46 = .ok (.goto 7, 3) := by decide +kernel
theorem dX10_across_49 : decode cX10_across 49 = .ok (.aload_n 2, 1) := by decide +kernel
theorem dX10_across_50 : decode cX10_across 50 = .ok (.iload 4, 2) := by decide +kernel
theorem dX10_across_52 : decode cX10_across 52 = .ok (.iaload, 1) := by decide +kernel
theorem dX10_across_53 : decode cX10_across 53 = .ok (.iadd, 1) := by decide +kernel
theorem dX10_across_54 : decode cX10_across 54 = .ok (.istore_n 3, 1) := by decide +kernel
theorem dX10_across_55 : decode cX10_across 55 = .ok (.iinc 4 1, 3) := by decide +kernel
theorem dX10_across_58 : decode cX10_across 58 = .ok (.goto (-42), 3) := by decide +kernel
theorem dX10_across_61 : decode cX10_across 61 = .ok (.iload_n 3, 1) := by decide +kernel
theorem dX10_across_62 : decode cX10_across 62 = .ok (.ireturn, 1) := by decide +kernel
theorem dX10_takes_0 : decode cX10_takes 0 = .ok (.iconst (-1), 1) := by decide +kernel
theorem dX10_takes_1 : decode cX10_takes 1 = .ok (.istore_n 3, 1) := by decide +kernel
theorem dX10_takes_2 : decode cX10_takes 2 = .ok (.iconst (-1), 1) := by decide +kernel
theorem dX10_takes_3 : decode cX10_takes 3 = .ok (.istore 4, 2) := by decide +kernel
theorem dX10_takes_5 : decode cX10_takes 5 = .ok (.aload_n 0, 1) := by decide +kernel
theorem dX10_takes_6 : decode cX10_takes 6 = .ok (.getfield 41, 3) := by decide +kernel
theorem dX10_takes_9 : decode cX10_takes 9 = .ok (.iload_n 1, 1) := by decide +kernel
theorem dX10_takes_10 : decode cX10_takes 10 = .ok (.iaload, 1) := by decide +kernel
theorem dX10_takes_11 : decode cX10_takes 11 = .ok (.istore 5, 2) := by decide +kernel
theorem dX10_takes_13 : decode cX10_takes 13 = .ok (.iload 5, 2) := by decide +kernel
theorem dX10_takes_15 : decode cX10_takes 15 = .ok (.aload_n 0, 1) := by decide +kernel
theorem dX10_takes_16 : decode cX10_takes 16 = .ok (.getfield 41, 3) := by decide +kernel
theorem dX10_takes_19 : decode cX10_takes 19 = .ok (.iload_n 1, 1) := by decide +kernel
theorem dX10_takes_20 : decode cX10_takes 20 = .ok (.iaload, 1) := by decide +kernel
theorem dX10_takes_21 : decode cX10_takes 21 = .ok (.aload_n 0, 1) := by decide +kernel
theorem dX10_takes_22 : decode cX10_takes 22 = .ok (.getfield 47, 3) := by decide +kernel
theorem dX10_takes_25 : decode cX10_takes 25 = .ok (.iload_n 1, 1) := by decide +kernel
theorem dX10_takes_26 : decode cX10_takes 26 = .ok (.iaload, 1) := by decide +kernel
theorem dX10_takes_27 : decode cX10_takes 27 = .ok (.iadd, 1) := by decide +kernel
theorem dX10_takes_28 : decode cX10_takes 28 = .ok (.if_icmp .ge 71, 3) := by decide +kernel
theorem dX10_takes_31 : decode cX10_takes 31 = .ok (.aload_n 0, 1) := by decide +kernel
theorem dX10_takes_32 : decode cX10_takes 32 = .ok (.getfield 20, 3) := by decide +kernel
theorem dX10_takes_35 : decode cX10_takes 35 = .ok (.iload 5, 2) := by decide +kernel
theorem dX10_takes_37 : decode cX10_takes 37 = .ok (.baload, 1) := by decide +kernel
theorem dX10_takes_38 : decode cX10_takes 38 = .ok (.ifCond .ne 34, 3) := by decide +kernel
theorem dX10_takes_41 : decode cX10_takes 41 = .ok (.aload_n 0, 1) := by decide +kernel
theorem dX10_takes_42 : decode cX10_takes 42 = .ok (.getfield 7, 3) := by decide +kernel
theorem dX10_takes_45 : decode cX10_takes 45 = .ok (.iload 5, 2) := by decide +kernel
theorem dX10_takes_47 : decode cX10_takes 47 = .ok (.iaload, 1) := by decide +kernel
theorem dX10_takes_48 : decode cX10_takes 48 = .ok (.iconst 1, 1) := by decide +kernel
theorem dX10_takes_49 : decode cX10_takes 49 = .ok (.if_icmp .eq 23, 3) := by decide +kernel
theorem dX10_takes_52 : decode cX10_takes 52 = .ok (.iload_n 3, 1) := by decide +kernel
theorem dX10_takes_53 : decode cX10_takes 53 = .ok (.iconst (-1), 1) := by decide +kernel
theorem dX10_takes_54 : decode cX10_takes 54 = .ok (.if_icmp .eq 13, 3) := by decide +kernel
theorem dX10_takes_57 : decode cX10_takes 57 = .ok (.aload_n 2, 1) := by decide +kernel
theorem dX10_takes_58 : decode cX10_takes 58 = .ok (.iload 5, 2) := by decide +kernel
theorem dX10_takes_60 : decode cX10_takes 60 = .ok (.iaload, 1) := by decide +kernel
theorem dX10_takes_61 : decode cX10_takes 61 = .ok (.aload_n 2, 1) := by decide +kernel
theorem dX10_takes_62 : decode cX10_takes 62 = .ok (.iload_n 3, 1) := by decide +kernel
theorem dX10_takes_63 : decode cX10_takes 63 = .ok (.iaload, 1) := by decide +kernel
theorem dX10_takes_64 : decode cX10_takes 64 = .ok (.if_icmp .ge 8, 3) := by decide +kernel
theorem dX10_takes_67 : decode cX10_takes 67 = .ok (.iload 5, 2) := by decide +kernel
theorem dX10_takes_69 : decode cX10_takes 69 = .ok (.goto 4, 3) := by decide +kernel
theorem dX10_takes_72 : decode cX10_takes 72 = .ok (.iload_n 3, 1) := by decide +kernel
theorem dX10_takes_73 : decode cX10_takes 73 = .ok (.istore_n 3, 1) := by decide +kernel
theorem dX10_takes_74 : decode cX10_takes 74 = .ok (.aload_n 0, 1) := by decide +kernel
theorem dX10_takes_75 : decode cX10_takes 75 = .ok (.getfield 20, 3) := by decide +kernel
theorem dX10_takes_78 : decode cX10_takes 78 = .ok (.iload 5, 2) := by decide +kernel
theorem dX10_takes_80 : decode cX10_takes 80 = .ok (.baload, 1) := by decide +kernel
theorem dX10_takes_81 : decode cX10_takes 81 = .ok (.ifCond .eq 8, 3) := by decide +kernel
theorem dX10_takes_84 : decode cX10_takes 84 = .ok (.iload 4, 2) := by decide +kernel
theorem dX10_takes_86 : decode cX10_takes 86 = .ok (.goto 5, 3) := by decide +kernel
theorem dX10_takes_89 : decode cX10_takes 89 = .ok (.iload 5, 2) := by decide +kernel
theorem dX10_takes_91 : decode cX10_takes 91 = .ok (.istore 4, 2) := by decide +kernel
theorem dX10_takes_93 : decode cX10_takes 93 = .ok (.iinc 5 1, 3) := by decide +kernel
theorem dX10_takes_96 : decode cX10_takes 96 = .ok (.goto (-83), 3) := by decide +kernel
theorem dX10_takes_99 : decode cX10_takes 99 = .ok (.iload_n 3, 1) := by decide +kernel
theorem dX10_takes_100 : decode cX10_takes 100 = .ok (.iconst (-1), 1) := by decide +kernel
theorem dX10_takes_101 : decode cX10_takes 101 = .ok (.if_icmp .ne 8, 3) := by decide +kernel
theorem dX10_takes_104 : decode cX10_takes 104 = .ok (.iload 4, 2) := by decide +kernel
theorem dX10_takes_106 : decode cX10_takes 106 = .ok (.goto 4, 3) := by decide +kernel
theorem dX10_takes_109 : decode cX10_takes 109 = .ok (.iload_n 3, 1) := by decide +kernel
theorem dX10_takes_110 : decode cX10_takes 110 = .ok (.ireturn, 1) := by decide +kernel
section
variable {p : Program} {l : Launch} {e : Env} {s : State} {m : MethodId} {args : Array Value} {below : List Frame} {meth : Method} {c : Code} {G : Gx} {e0 : Nat} {α : Ax} {κ : Nat → Int} {B : Nat}
def wp_X10_totalled (p1 : Int) (M : Mem) (Qm : Int → Mem → Prop) : Prop := wp_X10_isColumn p1 M fun (x2 : Int) (M1 : Mem) => wp_X10_goes x2 1 1 M1 fun (x5 : Int) (M4 : Mem) => ((¬ x5 = 0 → (0 ≤ p1 ∧ p1 < 6) ∧ (bit (if ¬ (M4 58 0 p1) = 0 then (0 : Int) else 1)) ∧ (0 ≤ p1 ∧ p1 < 6) ∧ ∀ M14 : Mem, M14 = up M4 58 0 p1 (if ¬ (M4 58 0 p1) = 0 then (0 : Int) else 1) → (0 ≤ p1 ∧ p1 < 6) ∧ (bit (M14 58 0 p1)) ∧ Qm (M14 58 0 p1) M14) ∧ (x5 = 0 → Qm 0 M4))
set_option maxHeartbeats 4000000 in
set_option maxRecDepth 100000 in
theorem t_X10_totalled {p1 : Int} (X : CX p m c cX10_totalled 2 s args RX10 G B κ meth (some .boolean)) (hp1 : inR p1) {M : Mem} {Qm : Int → Mem → Prop} (hw : wp_X10_totalled p1 M Qm) (H : Heap) (locs : List Loc) (hR : Rp G e0 α κ B M H) (hS : va_S (fun q => B ≤ q) s.heap H locs) (ls : Array Slot) (hl : lv_has ls 2 [(0, .ref (α 11 0)), (1, .int (Int32.ofInt p1))]) : WI p l e 2 s m args below meth c G e0 α κ B Qm H locs 0 ls [] := by
  have hw : wp_X10_isColumn p1 M fun (x2 : Int) (M1 : Mem) => wp_X10_goes x2 1 1 M1 fun (x5 : Int) (M4 : Mem) => ((¬ x5 = 0 → (0 ≤ p1 ∧ p1 < 6) ∧ (bit (if ¬ (M4 58 0 p1) = 0 then (0 : Int) else 1)) ∧ (0 ≤ p1 ∧ p1 < 6) ∧ ∀ M14 : Mem, M14 = up M4 58 0 p1 (if ¬ (M4 58 0 p1) = 0 then (0 : Int) else 1) → (0 ≤ p1 ∧ p1 < 6) ∧ (bit (M14 58 0 p1)) ∧ Qm (M14 58 0 p1) M14) ∧ (x5 = 0 → Qm 0 M4)) := hw
  refine lv_aload_n X.1.1 X.1.2.1 dX10_totalled_0 rfl (lv_at hl 0 rfl) ?_
  refine lv_aload_n X.1.1 X.1.2.1 dX10_totalled_1 rfl (lv_at hl 0 rfl) ?_
  refine lv_iload_n X.1.1 X.1.2.1 dX10_totalled_2 rfl (lv_at hl 1 rfl) ?_
  refine cs_X10_isColumn X hp1 (kc := 2) rmL_ok rm_c (by decide) hR hS kw_1737 hl.1 dX10_totalled_3 (Nat.le_of_ble_eq_true rfl) hw (fun x2 M1 H locs hw r3 hR hS => ?_)
  refine sa_const X.1 dX10_totalled_6 ?_
  refine sa_const X.1 dX10_totalled_7 ?_
  refine cs_X10_goes X r3 (inR_c (a := 1) rfl) (inR_c (a := 1) rfl) (kc := 2) rmL_ok rm_c (by decide) hR hS kw_1721 hl.1 dX10_totalled_8 (Nat.le_of_ble_eq_true rfl) hw (fun x5 M4 H locs hw r6 hR hS => ?_)
  refine sa_if_ne (tgt := 16) X.1 r6 dX10_totalled_11 (by decide) (fun hc => ?_) (fun hc => ?_)
  · have hw := hw.1 hc
    refine lv_aload_n X.1.1 X.1.2.1 dX10_totalled_16 rfl (lv_at hl 0 rfl) ?_
    refine gt_11_2 X hR (okf X.2.2.1 rfl) kw_1531 dX10_totalled_17 ?_
    refine lv_iload_n X.1.1 X.1.2.1 dX10_totalled_20 rfl (lv_at hl 1 rfl) ?_
    refine lv_aload_n X.1.1 X.1.2.1 dX10_totalled_21 rfl (lv_at hl 0 rfl) ?_
    refine gt_11_2 X hR (okf X.2.2.1 rfl) kw_1531 dX10_totalled_22 ?_
    refine lv_iload_n X.1.1 X.1.2.1 dX10_totalled_25 rfl (lv_at hl 1 rfl) ?_
    have c7 := hw.1
    have hw := hw.2
    refine ra_58 X hR (okf X.2.2.1 rfl) c7 dX10_totalled_26 ?_
    have r8 := hR.r 58 0 p1
    have r9 := inR_ite (c := ¬ (M4 58 0 p1) = 0) (inR_c (a := 0) rfl) (inR_c (a := 1) rfl)
    refine cut_j (A := ∀ v10 : Int, v10 = (if ¬ (M4 58 0 p1) = 0 then (0 : Int) else 1) → WI p l e 2 s m args below meth c G e0 α κ B Qm H locs 35 ls [.int (Int32.ofInt v10), .int (Int32.ofInt p1), .ref (α 58 0)]) (fun J11 => ?_) ?_
    · refine sa_if_ne (tgt := 34) X.1 r8 dX10_totalled_27 (by decide) (fun hc => ?_) (fun hc => ?_)
      · skip
        refine sa_const X.1 dX10_totalled_34 ?_
        exact J11 (0) (if_pos (c := ¬ (M4 58 0 p1) = 0) hc).symm
      · skip
        refine sa_const X.1 dX10_totalled_30 ?_
        refine lv_goto (tgt := 35) X.1.1 X.1.2.1 dX10_totalled_31 (by decide) ?_
        exact J11 (1) (if_neg (c := ¬ (M4 58 0 p1) = 0) (fun z => z hc)).symm
    intro v10 hv10
    subst hv10
    have c12 := hw.1
    have hw := hw.2
    have c13 := hw.1
    have hw := hw.2
    refine wa_58 X hR hS (okf X.2.2.1 rfl) c13 c12 dX10_totalled_35 (fun H locs hR hS => ?_)
    obtain ⟨M14, e15⟩ : ∃ z : Mem, z = up M4 58 0 p1 (if ¬ (M4 58 0 p1) = 0 then (0 : Int) else 1) := ⟨_, rfl⟩
    rw [← e15] at hR
    have hw := hw M14 e15
    refine lv_aload_n X.1.1 X.1.2.1 dX10_totalled_36 rfl (lv_at hl 0 rfl) ?_
    refine gt_11_2 X hR (okf X.2.2.1 rfl) kw_1531 dX10_totalled_37 ?_
    refine lv_iload_n X.1.1 X.1.2.1 dX10_totalled_40 rfl (lv_at hl 1 rfl) ?_
    have c16 := hw.1
    have hw := hw.2
    refine ra_58 X hR (okf X.2.2.1 rfl) c16 dX10_totalled_41 ?_
    have r17 := hR.r 58 0 p1
    have c18 := hw.1
    have hw := hw.2
    exact sa_zret X.1 X.2.2.2.1 X.2.2.2.2 hR hS c18 hw dX10_totalled_42
  · have hw := hw.2 hc
    refine sa_const X.1 dX10_totalled_14 ?_
    exact sa_zret X.1 X.2.2.2.1 X.2.2.2.2 hR hS (Or.inl rfl) hw dX10_totalled_15
theorem m_X10_totalled {l : Launch} {G : Gx} {e0 : Nat} {α : Ax} {κ : Nat → Int} {B : Nat} {p1 : Int} (hκ : kOK κ) (hp1 : inR p1) {M : Mem} {Qm : Int → Mem → Prop} (hw : wp_X10_totalled p1 M Qm) : CI l yX10_totalled (Cond.code yX10_totalled cX10_totalled 2 (some .boolean)) 2 G e0 α κ B [.ref (α 11 0), .int (Int32.ofInt p1)] M Qm :=
  CI.mk hκ (by decide +kernel) rfl (Nat.le_of_ble_eq_true rfl) (lv := [(0, .ref (α 11 0)), (1, .int (Int32.ofInt p1))]) rfl (fun p e s m args below meth c ls X hR hS hl => t_X10_totalled X hp1 hw _ _ hR hS ls hl)
theorem cs_X10_totalled {cc : ByteArray} {nL : Nat} {own : String} {ret : Option FieldType} {idx pc : Nat} {p1 : Int} (X : CX p m c cc nL s args own G B κ meth ret) (hp1 : inR p1) {kc : Nat} {R : Room} {cells slots : Nat} (hRr : RmOK R kc) (hcel : cells ≤ R.cells ∧ slots ≤ R.slots) (hk : 2 + 1 ≤ kc) {M : Mem} {H : Heap} {locs : List Loc} (hR : Rp G e0 α κ B M H) (hS : va_S (fun q => B ≤ q) s.heap H locs) (k1 : Cond.methodLink own idx yX10_totalled ∈ gw) {ls : Array Slot} (hml : ls.size = nL) {rest : List Value} (hd : decode cc pc = .ok (.invokevirtual idx, 3)) (hrest : (rest.map fun v => v.category).sum ≤ 8) {Q : State → Prop} {Qm : Int → Mem → Prop} (hw : wp_X10_totalled p1 M Qm) (kk : ∀ (r : Int) (M1 : Mem) (H1 : Heap) (locs1 : List Loc), Qm r M1 → inR r → Rp G e0 α κ B M1 H1 → va_S (fun q => B ≤ q) s.heap H1 locs1 → W p l e R s m args below meth c H1 locs1 cells slots Q (F0 m (pc + 3) ls (.int (Int32.ofInt r) :: rest))) : W p l e R s m args below meth c H locs cells slots Q (F0 m pc ls (.int (Int32.ofInt p1) :: .ref (α 11 0) :: rest)) :=
  sa_callVI 2 (n := 1) (As := [.int (Int32.ofInt p1)]) (rest := rest) X.1 X.2.1 hR hS (m_X10_totalled X.2.2.1 hp1 hw) k1 kw_1784 kw_1785 kw_104 kw_1786 ⟨rfl, by decide +kernel, by decide +kernel, by decide +kernel⟩ (rm_ok hRr hk (by decide)) (rc_11 X hR (okf X.2.2.1 rfl)) rfl rfl hrest hml hd hcel kk
def wp_X10_visible_4 (Qm : Int → Mem → Prop) : Nat → Int → Int → Mem → Prop
  | 0 => fun _ _ _ => False
  | n + 1 => fun y1 y2 M => (((M 11 0 4) ≤ y2 → Qm y1 M) ∧ (y2 < (M 11 0 4) → (0 ≤ y2 ∧ y2 < 6) ∧ (inR (y1 + (if (M 59 0 y2) = 0 then (1 : Int) else 0))) ∧ (inR (y2 + 1)) ∧ wp_X10_visible_4 Qm n (y1 + (if (M 59 0 y2) = 0 then (1 : Int) else 0)) (y2 + 1) M))
def wp_X10_visible (M : Mem) (Qm : Int → Mem → Prop) : Prop := (∃ n9 : Nat, wp_X10_visible_4 Qm n9 0 0 M)
set_option maxHeartbeats 4000000 in
set_option maxRecDepth 100000 in
theorem t_X10_visible_4 (X : CX p m c cX10_visible 3 s args RX10 G B κ meth (some .int)) {Qm : Int → Mem → Prop} : ∀ n : Nat, ∀ y1 : Int, ∀ y2 : Int, ∀ M : Mem, wp_X10_visible_4 Qm n y1 y2 M → inR y1 → inR y2 → ∀ (H : Heap) (locs : List Loc), Rp G e0 α κ B M H → va_S (fun q => B ≤ q) s.heap H locs → ∀ (ls : Array Slot), lv_has ls 3 [(0, .ref (α 11 0)), (1, .int (Int32.ofInt y1)), (2, .int (Int32.ofInt y2))] → WI p l e 0 s m args below meth c G e0 α κ B Qm H locs 4 ls [] := by
  intro n
  induction n with
  | zero =>
    intro y1 y2 M hw hy1 hy2 H locs hR hS ls hl
    exact hw.elim
  | succ n ih =>
    intro y1 y2 M hw hy1 hy2 H locs hR hS ls hl
    have hw : (((M 11 0 4) ≤ y2 → Qm y1 M) ∧ (y2 < (M 11 0 4) → (0 ≤ y2 ∧ y2 < 6) ∧ (inR (y1 + (if (M 59 0 y2) = 0 then (1 : Int) else 0))) ∧ (inR (y2 + 1)) ∧ wp_X10_visible_4 Qm n (y1 + (if (M 59 0 y2) = 0 then (1 : Int) else 0)) (y2 + 1) M)) := hw
    refine lv_iload_n X.1.1 X.1.2.1 dX10_visible_4 rfl (lv_at hl 2 rfl) ?_
    refine lv_aload_n X.1.1 X.1.2.1 dX10_visible_5 rfl (lv_at hl 0 rfl) ?_
    refine gt_11_4 X hR (okf X.2.2.1 rfl) kw_1533 dX10_visible_6 ?_
    have r1 := hR.r 11 0 4
    refine sa_icmp_ge (tgt := 35) X.1 hy2 r1 dX10_visible_9 (by decide) (fun hc => ?_) (fun hc => ?_)
    · have hw := hw.1 hc
      refine lv_iload_n X.1.1 X.1.2.1 dX10_visible_35 rfl (lv_at hl 1 rfl) ?_
      exact sa_iret X.1 X.2.2.2.1 X.2.2.2.2 hR hS hy1 hw dX10_visible_36
    · have hw := hw.2 hc
      refine lv_iload_n X.1.1 X.1.2.1 dX10_visible_12 rfl (lv_at hl 1 rfl) ?_
      refine lv_aload_n X.1.1 X.1.2.1 dX10_visible_13 rfl (lv_at hl 0 rfl) ?_
      refine gt_11_3 X hR (okf X.2.2.1 rfl) kw_1532 dX10_visible_14 ?_
      refine lv_iload_n X.1.1 X.1.2.1 dX10_visible_17 rfl (lv_at hl 2 rfl) ?_
      have c2 := hw.1
      have hw := hw.2
      refine ra_59 X hR (okf X.2.2.1 rfl) c2 dX10_visible_18 ?_
      have r3 := hR.r 59 0 y2
      have r4 := inR_ite (c := (M 59 0 y2) = 0) (inR_c (a := 1) rfl) (inR_c (a := 0) rfl)
      refine cut_j (A := ∀ v5 : Int, v5 = (if (M 59 0 y2) = 0 then (1 : Int) else 0) → WI p l e 0 s m args below meth c G e0 α κ B Qm H locs 27 ls [.int (Int32.ofInt v5), .int (Int32.ofInt y1)]) (fun J6 => ?_) ?_
      · refine sa_if_eq (tgt := 26) X.1 r3 dX10_visible_19 (by decide) (fun hc => ?_) (fun hc => ?_)
        · skip
          refine sa_const X.1 dX10_visible_26 ?_
          exact J6 (1) (if_pos (c := (M 59 0 y2) = 0) hc).symm
        · skip
          refine sa_const X.1 dX10_visible_22 ?_
          refine lv_goto (tgt := 27) X.1.1 X.1.2.1 dX10_visible_23 (by decide) ?_
          exact J6 (0) (if_neg (c := (M 59 0 y2) = 0) hc).symm
      intro v5 hv5
      subst hv5
      have c7 := hw.1
      have hw := hw.2
      refine sa_iadd X.1 dX10_visible_27 ?_
      refine lv_istore_n (lv' := [(1, .int (Int32.ofInt (y1 + (if (M 59 0 y2) = 0 then (1 : Int) else 0)))), (0, .ref (α 11 0)), (2, .int (Int32.ofInt y2))]) X.1.1 X.1.2.1 dX10_visible_28 rfl hl (by decide) rfl (fun ls hl => ?_)
      have c8 := hw.1
      have hw := hw.2
      refine lv_iinc (v := Int32.ofInt (y2 + 1)) (lv' := [(2, .int (Int32.ofInt (y2 + 1))), (1, .int (Int32.ofInt (y1 + (if (M 59 0 y2) = 0 then (1 : Int) else 0)))), (0, .ref (α 11 0))]) X.1.1 X.1.2.1 dX10_visible_29 hl (k := 2) rfl (Int32.ofInt_add _ _).symm (by decide) rfl (fun ls hl => ?_)
      refine lv_goto (tgt := 4) X.1.1 X.1.2.1 dX10_visible_32 (by decide) ?_
      exact ih _ _ _ hw c7 c8 _ _ hR hS _ (lv_sub hl [2, 1, 0] rfl)
set_option maxHeartbeats 4000000 in
set_option maxRecDepth 100000 in
theorem t_X10_visible (X : CX p m c cX10_visible 3 s args RX10 G B κ meth (some .int)) {M : Mem} {Qm : Int → Mem → Prop} (hw : wp_X10_visible M Qm) (H : Heap) (locs : List Loc) (hR : Rp G e0 α κ B M H) (hS : va_S (fun q => B ≤ q) s.heap H locs) (ls : Array Slot) (hl : lv_has ls 3 [(0, .ref (α 11 0))]) : WI p l e 0 s m args below meth c G e0 α κ B Qm H locs 0 ls [] := by
  have hw : (∃ n9 : Nat, wp_X10_visible_4 Qm n9 0 0 M) := hw
  refine sa_const X.1 dX10_visible_0 ?_
  refine lv_istore_n (lv' := [(1, .int (Int32.ofInt 0)), (0, .ref (α 11 0))]) X.1.1 X.1.2.1 dX10_visible_1 rfl hl (by decide) rfl (fun ls hl => ?_)
  refine sa_const X.1 dX10_visible_2 ?_
  refine lv_istore_n (lv' := [(2, .int (Int32.ofInt 0)), (1, .int (Int32.ofInt 0)), (0, .ref (α 11 0))]) X.1.1 X.1.2.1 dX10_visible_3 rfl hl (by decide) rfl (fun ls hl => ?_)
  obtain ⟨n9, hw⟩ := hw
  exact t_X10_visible_4 X n9 _ _ _ hw (inR_c (a := 0) rfl) (inR_c (a := 0) rfl) _ _ hR hS _ (lv_sub hl [2, 1, 0] rfl)
theorem m_X10_visible {l : Launch} {G : Gx} {e0 : Nat} {α : Ax} {κ : Nat → Int} {B : Nat} (hκ : kOK κ) {M : Mem} {Qm : Int → Mem → Prop} (hw : wp_X10_visible M Qm) : CI l yX10_visible (Cond.code yX10_visible cX10_visible 3 (some .int)) 0 G e0 α κ B [.ref (α 11 0)] M Qm :=
  CI.mk hκ (by decide +kernel) rfl (Nat.le_of_ble_eq_true rfl) (lv := [(0, .ref (α 11 0))]) rfl (fun p e s m args below meth c ls X hR hS hl => t_X10_visible X hw _ _ hR hS ls hl)
theorem cs_X10_visible {cc : ByteArray} {nL : Nat} {own : String} {ret : Option FieldType} {idx pc : Nat} (X : CX p m c cc nL s args own G B κ meth ret) {kc : Nat} {R : Room} {cells slots : Nat} (hRr : RmOK R kc) (hcel : cells ≤ R.cells ∧ slots ≤ R.slots) (hk : 0 + 1 ≤ kc) {M : Mem} {H : Heap} {locs : List Loc} (hR : Rp G e0 α κ B M H) (hS : va_S (fun q => B ≤ q) s.heap H locs) (k1 : Cond.methodLink own idx yX10_visible ∈ gw) {ls : Array Slot} (hml : ls.size = nL) {rest : List Value} (hd : decode cc pc = .ok (.invokevirtual idx, 3)) (hrest : (rest.map fun v => v.category).sum ≤ 8) {Q : State → Prop} {Qm : Int → Mem → Prop} (hw : wp_X10_visible M Qm) (kk : ∀ (r : Int) (M1 : Mem) (H1 : Heap) (locs1 : List Loc), Qm r M1 → inR r → Rp G e0 α κ B M1 H1 → va_S (fun q => B ≤ q) s.heap H1 locs1 → W p l e R s m args below meth c H1 locs1 cells slots Q (F0 m (pc + 3) ls (.int (Int32.ofInt r) :: rest))) : W p l e R s m args below meth c H locs cells slots Q (F0 m pc ls (.ref (α 11 0) :: rest)) :=
  sa_callVI 0 (n := 0) (As := []) (rest := rest) X.1 X.2.1 hR hS (m_X10_visible X.2.2.1 hw) k1 kw_1793 kw_48 kw_104 kw_1794 ⟨rfl, by decide +kernel, by decide +kernel, by decide +kernel⟩ (rm_ok hRr hk (by decide)) (rc_11 X hR (okf X.2.2.1 rfl)) rfl rfl hrest hml hd hcel kk
def wp_X10_hide_33 (p1 : Int) (Qm : Int → Mem → Prop) (z0 : Int) (M : Mem) : Prop := wp_X10_goes z0 0 1 M fun (x5 : Int) (M4 : Mem) => ((¬ x5 = 0 → (0 ≤ p1 ∧ p1 < 6) ∧ (bit (if ¬ (M4 59 0 p1) = 0 then (0 : Int) else 1)) ∧ (0 ≤ p1 ∧ p1 < 6) ∧ ∀ M14 : Mem, M14 = up M4 59 0 p1 (if ¬ (M4 59 0 p1) = 0 then (0 : Int) else 1) → (0 ≤ p1 ∧ p1 < 6) ∧ (bit (M14 59 0 p1)) ∧ Qm (M14 59 0 p1) M14) ∧ (x5 = 0 → Qm 0 M4))
def wp_X10_hide_29 (p1 : Int) (Qm : Int → Mem → Prop) (z0 : Int) (M : Mem) : Prop := wp_X10_goes z0 1 1 M fun (x22 : Int) (M21 : Mem) => ((¬ x22 = 0 → (0 ≤ p1 ∧ p1 < 6) ∧ (bit (if ¬ (M21 59 0 p1) = 0 then (0 : Int) else 1)) ∧ (0 ≤ p1 ∧ p1 < 6) ∧ ∀ M31 : Mem, M31 = up M21 59 0 p1 (if ¬ (M21 59 0 p1) = 0 then (0 : Int) else 1) → (0 ≤ p1 ∧ p1 < 6) ∧ (bit (M31 59 0 p1)) ∧ Qm (M31 59 0 p1) M31) ∧ (x22 = 0 → Qm 0 M21))
def wp_X10_hide (p1 : Int) (M : Mem) (Qm : Int → Mem → Prop) : Prop := wp_X10_isColumn p1 M fun (x2 : Int) (M1 : Mem) => ((x2 = 0 → wp_X10_hide_33 p1 Qm x2 M1) ∧ (¬ x2 = 0 → (0 ≤ p1 ∧ p1 < 6) ∧ ((¬ (M1 59 0 p1) = 0 → wp_X10_hide_29 p1 Qm x2 M1) ∧ ((M1 59 0 p1) = 0 → wp_X10_visible M1 fun (x37 : Int) (M36 : Mem) => wp_X10_goes x2 (if x37 ≤ 1 then (0 : Int) else 1) 1 M36 fun (x43 : Int) (M42 : Mem) => ((¬ x43 = 0 → (0 ≤ p1 ∧ p1 < 6) ∧ (bit (if ¬ (M42 59 0 p1) = 0 then (0 : Int) else 1)) ∧ (0 ≤ p1 ∧ p1 < 6) ∧ ∀ M52 : Mem, M52 = up M42 59 0 p1 (if ¬ (M42 59 0 p1) = 0 then (0 : Int) else 1) → (0 ≤ p1 ∧ p1 < 6) ∧ (bit (M52 59 0 p1)) ∧ Qm (M52 59 0 p1) M52) ∧ (x43 = 0 → Qm 0 M42))))))
set_option maxHeartbeats 4000000 in
set_option maxRecDepth 100000 in
theorem t_X10_hide_33 {p1 : Int} (X : CX p m c cX10_hide 3 s args RX10 G B κ meth (some .boolean)) (hp1 : inR p1) {Qm : Int → Mem → Prop} : ∀ z0 : Int, ∀ M : Mem, wp_X10_hide_33 p1 Qm z0 M → inR z0 → ∀ (H : Heap) (locs : List Loc), Rp G e0 α κ B M H → va_S (fun q => B ≤ q) s.heap H locs → ∀ (ls : Array Slot), lv_has ls 3 [(0, .ref (α 11 0)), (1, .int (Int32.ofInt p1))] → WI p l e 2 s m args below meth c G e0 α κ B Qm H locs 33 ls [.int (Int32.ofInt z0), .ref (α 11 0)] := by
  intro z0 M hw hz0 H locs hR hS ls hl
  have hw : wp_X10_goes z0 0 1 M fun (x5 : Int) (M4 : Mem) => ((¬ x5 = 0 → (0 ≤ p1 ∧ p1 < 6) ∧ (bit (if ¬ (M4 59 0 p1) = 0 then (0 : Int) else 1)) ∧ (0 ≤ p1 ∧ p1 < 6) ∧ ∀ M14 : Mem, M14 = up M4 59 0 p1 (if ¬ (M4 59 0 p1) = 0 then (0 : Int) else 1) → (0 ≤ p1 ∧ p1 < 6) ∧ (bit (M14 59 0 p1)) ∧ Qm (M14 59 0 p1) M14) ∧ (x5 = 0 → Qm 0 M4)) := hw
  refine sa_const X.1 dX10_hide_33 ?_
  refine sa_const X.1 dX10_hide_34 ?_
  refine cs_X10_goes X hz0 (inR_c (a := 0) rfl) (inR_c (a := 1) rfl) (kc := 2) rmL_ok rm_c (by decide) hR hS kw_1721 hl.1 dX10_hide_35 (Nat.le_of_ble_eq_true rfl) hw (fun x5 M4 H locs hw r6 hR hS => ?_)
  refine sa_if_ne (tgt := 43) X.1 r6 dX10_hide_38 (by decide) (fun hc => ?_) (fun hc => ?_)
  · have hw := hw.1 hc
    refine lv_aload_n X.1.1 X.1.2.1 dX10_hide_43 rfl (lv_at hl 0 rfl) ?_
    refine gt_11_3 X hR (okf X.2.2.1 rfl) kw_1532 dX10_hide_44 ?_
    refine lv_iload_n X.1.1 X.1.2.1 dX10_hide_47 rfl (lv_at hl 1 rfl) ?_
    refine lv_aload_n X.1.1 X.1.2.1 dX10_hide_48 rfl (lv_at hl 0 rfl) ?_
    refine gt_11_3 X hR (okf X.2.2.1 rfl) kw_1532 dX10_hide_49 ?_
    refine lv_iload_n X.1.1 X.1.2.1 dX10_hide_52 rfl (lv_at hl 1 rfl) ?_
    have c7 := hw.1
    have hw := hw.2
    refine ra_59 X hR (okf X.2.2.1 rfl) c7 dX10_hide_53 ?_
    have r8 := hR.r 59 0 p1
    have r9 := inR_ite (c := ¬ (M4 59 0 p1) = 0) (inR_c (a := 0) rfl) (inR_c (a := 1) rfl)
    refine cut_j (A := ∀ v10 : Int, v10 = (if ¬ (M4 59 0 p1) = 0 then (0 : Int) else 1) → WI p l e 2 s m args below meth c G e0 α κ B Qm H locs 62 ls [.int (Int32.ofInt v10), .int (Int32.ofInt p1), .ref (α 59 0)]) (fun J11 => ?_) ?_
    · refine sa_if_ne (tgt := 61) X.1 r8 dX10_hide_54 (by decide) (fun hc => ?_) (fun hc => ?_)
      · skip
        refine sa_const X.1 dX10_hide_61 ?_
        exact J11 (0) (if_pos (c := ¬ (M4 59 0 p1) = 0) hc).symm
      · skip
        refine sa_const X.1 dX10_hide_57 ?_
        refine lv_goto (tgt := 62) X.1.1 X.1.2.1 dX10_hide_58 (by decide) ?_
        exact J11 (1) (if_neg (c := ¬ (M4 59 0 p1) = 0) (fun z => z hc)).symm
    intro v10 hv10
    subst hv10
    have c12 := hw.1
    have hw := hw.2
    have c13 := hw.1
    have hw := hw.2
    refine wa_59 X hR hS (okf X.2.2.1 rfl) c13 c12 dX10_hide_62 (fun H locs hR hS => ?_)
    obtain ⟨M14, e15⟩ : ∃ z : Mem, z = up M4 59 0 p1 (if ¬ (M4 59 0 p1) = 0 then (0 : Int) else 1) := ⟨_, rfl⟩
    rw [← e15] at hR
    have hw := hw M14 e15
    refine lv_aload_n X.1.1 X.1.2.1 dX10_hide_63 rfl (lv_at hl 0 rfl) ?_
    refine gt_11_3 X hR (okf X.2.2.1 rfl) kw_1532 dX10_hide_64 ?_
    refine lv_iload_n X.1.1 X.1.2.1 dX10_hide_67 rfl (lv_at hl 1 rfl) ?_
    have c16 := hw.1
    have hw := hw.2
    refine ra_59 X hR (okf X.2.2.1 rfl) c16 dX10_hide_68 ?_
    have r17 := hR.r 59 0 p1
    have c18 := hw.1
    have hw := hw.2
    exact sa_zret X.1 X.2.2.2.1 X.2.2.2.2 hR hS c18 hw dX10_hide_69
  · have hw := hw.2 hc
    refine sa_const X.1 dX10_hide_41 ?_
    exact sa_zret X.1 X.2.2.2.1 X.2.2.2.2 hR hS (Or.inl rfl) hw dX10_hide_42
set_option maxHeartbeats 4000000 in
set_option maxRecDepth 100000 in
theorem t_X10_hide_29 {p1 : Int} (X : CX p m c cX10_hide 3 s args RX10 G B κ meth (some .boolean)) (hp1 : inR p1) {Qm : Int → Mem → Prop} : ∀ z0 : Int, ∀ M : Mem, wp_X10_hide_29 p1 Qm z0 M → inR z0 → ∀ (H : Heap) (locs : List Loc), Rp G e0 α κ B M H → va_S (fun q => B ≤ q) s.heap H locs → ∀ (ls : Array Slot), lv_has ls 3 [(0, .ref (α 11 0)), (1, .int (Int32.ofInt p1))] → WI p l e 2 s m args below meth c G e0 α κ B Qm H locs 29 ls [.int (Int32.ofInt z0), .ref (α 11 0)] := by
  intro z0 M hw hz0 H locs hR hS ls hl
  have hw : wp_X10_goes z0 1 1 M fun (x22 : Int) (M21 : Mem) => ((¬ x22 = 0 → (0 ≤ p1 ∧ p1 < 6) ∧ (bit (if ¬ (M21 59 0 p1) = 0 then (0 : Int) else 1)) ∧ (0 ≤ p1 ∧ p1 < 6) ∧ ∀ M31 : Mem, M31 = up M21 59 0 p1 (if ¬ (M21 59 0 p1) = 0 then (0 : Int) else 1) → (0 ≤ p1 ∧ p1 < 6) ∧ (bit (M31 59 0 p1)) ∧ Qm (M31 59 0 p1) M31) ∧ (x22 = 0 → Qm 0 M21)) := hw
  refine sa_const X.1 dX10_hide_29 ?_
  refine lv_goto (tgt := 34) X.1.1 X.1.2.1 dX10_hide_30 (by decide) ?_
  refine sa_const X.1 dX10_hide_34 ?_
  refine cs_X10_goes X hz0 (inR_c (a := 1) rfl) (inR_c (a := 1) rfl) (kc := 2) rmL_ok rm_c (by decide) hR hS kw_1721 hl.1 dX10_hide_35 (Nat.le_of_ble_eq_true rfl) hw (fun x22 M21 H locs hw r23 hR hS => ?_)
  refine sa_if_ne (tgt := 43) X.1 r23 dX10_hide_38 (by decide) (fun hc => ?_) (fun hc => ?_)
  · have hw := hw.1 hc
    refine lv_aload_n X.1.1 X.1.2.1 dX10_hide_43 rfl (lv_at hl 0 rfl) ?_
    refine gt_11_3 X hR (okf X.2.2.1 rfl) kw_1532 dX10_hide_44 ?_
    refine lv_iload_n X.1.1 X.1.2.1 dX10_hide_47 rfl (lv_at hl 1 rfl) ?_
    refine lv_aload_n X.1.1 X.1.2.1 dX10_hide_48 rfl (lv_at hl 0 rfl) ?_
    refine gt_11_3 X hR (okf X.2.2.1 rfl) kw_1532 dX10_hide_49 ?_
    refine lv_iload_n X.1.1 X.1.2.1 dX10_hide_52 rfl (lv_at hl 1 rfl) ?_
    have c24 := hw.1
    have hw := hw.2
    refine ra_59 X hR (okf X.2.2.1 rfl) c24 dX10_hide_53 ?_
    have r25 := hR.r 59 0 p1
    have r26 := inR_ite (c := ¬ (M21 59 0 p1) = 0) (inR_c (a := 0) rfl) (inR_c (a := 1) rfl)
    refine cut_j (A := ∀ v27 : Int, v27 = (if ¬ (M21 59 0 p1) = 0 then (0 : Int) else 1) → WI p l e 2 s m args below meth c G e0 α κ B Qm H locs 62 ls [.int (Int32.ofInt v27), .int (Int32.ofInt p1), .ref (α 59 0)]) (fun J28 => ?_) ?_
    · refine sa_if_ne (tgt := 61) X.1 r25 dX10_hide_54 (by decide) (fun hc => ?_) (fun hc => ?_)
      · skip
        refine sa_const X.1 dX10_hide_61 ?_
        exact J28 (0) (if_pos (c := ¬ (M21 59 0 p1) = 0) hc).symm
      · skip
        refine sa_const X.1 dX10_hide_57 ?_
        refine lv_goto (tgt := 62) X.1.1 X.1.2.1 dX10_hide_58 (by decide) ?_
        exact J28 (1) (if_neg (c := ¬ (M21 59 0 p1) = 0) (fun z => z hc)).symm
    intro v27 hv27
    subst hv27
    have c29 := hw.1
    have hw := hw.2
    have c30 := hw.1
    have hw := hw.2
    refine wa_59 X hR hS (okf X.2.2.1 rfl) c30 c29 dX10_hide_62 (fun H locs hR hS => ?_)
    obtain ⟨M31, e32⟩ : ∃ z : Mem, z = up M21 59 0 p1 (if ¬ (M21 59 0 p1) = 0 then (0 : Int) else 1) := ⟨_, rfl⟩
    rw [← e32] at hR
    have hw := hw M31 e32
    refine lv_aload_n X.1.1 X.1.2.1 dX10_hide_63 rfl (lv_at hl 0 rfl) ?_
    refine gt_11_3 X hR (okf X.2.2.1 rfl) kw_1532 dX10_hide_64 ?_
    refine lv_iload_n X.1.1 X.1.2.1 dX10_hide_67 rfl (lv_at hl 1 rfl) ?_
    have c33 := hw.1
    have hw := hw.2
    refine ra_59 X hR (okf X.2.2.1 rfl) c33 dX10_hide_68 ?_
    have r34 := hR.r 59 0 p1
    have c35 := hw.1
    have hw := hw.2
    exact sa_zret X.1 X.2.2.2.1 X.2.2.2.2 hR hS c35 hw dX10_hide_69
  · have hw := hw.2 hc
    refine sa_const X.1 dX10_hide_41 ?_
    exact sa_zret X.1 X.2.2.2.1 X.2.2.2.2 hR hS (Or.inl rfl) hw dX10_hide_42
set_option maxHeartbeats 4000000 in
set_option maxRecDepth 100000 in
theorem t_X10_hide {p1 : Int} (X : CX p m c cX10_hide 3 s args RX10 G B κ meth (some .boolean)) (hp1 : inR p1) {M : Mem} {Qm : Int → Mem → Prop} (hw : wp_X10_hide p1 M Qm) (H : Heap) (locs : List Loc) (hR : Rp G e0 α κ B M H) (hS : va_S (fun q => B ≤ q) s.heap H locs) (ls : Array Slot) (hl : lv_has ls 3 [(0, .ref (α 11 0)), (1, .int (Int32.ofInt p1))]) : WI p l e 2 s m args below meth c G e0 α κ B Qm H locs 0 ls [] := by
  have hw : wp_X10_isColumn p1 M fun (x2 : Int) (M1 : Mem) => ((x2 = 0 → wp_X10_hide_33 p1 Qm x2 M1) ∧ (¬ x2 = 0 → (0 ≤ p1 ∧ p1 < 6) ∧ ((¬ (M1 59 0 p1) = 0 → wp_X10_hide_29 p1 Qm x2 M1) ∧ ((M1 59 0 p1) = 0 → wp_X10_visible M1 fun (x37 : Int) (M36 : Mem) => wp_X10_goes x2 (if x37 ≤ 1 then (0 : Int) else 1) 1 M36 fun (x43 : Int) (M42 : Mem) => ((¬ x43 = 0 → (0 ≤ p1 ∧ p1 < 6) ∧ (bit (if ¬ (M42 59 0 p1) = 0 then (0 : Int) else 1)) ∧ (0 ≤ p1 ∧ p1 < 6) ∧ ∀ M52 : Mem, M52 = up M42 59 0 p1 (if ¬ (M42 59 0 p1) = 0 then (0 : Int) else 1) → (0 ≤ p1 ∧ p1 < 6) ∧ (bit (M52 59 0 p1)) ∧ Qm (M52 59 0 p1) M52) ∧ (x43 = 0 → Qm 0 M42)))))) := hw
  refine lv_aload_n X.1.1 X.1.2.1 dX10_hide_0 rfl (lv_at hl 0 rfl) ?_
  refine lv_iload_n X.1.1 X.1.2.1 dX10_hide_1 rfl (lv_at hl 1 rfl) ?_
  refine cs_X10_isColumn X hp1 (kc := 2) rmL_ok rm_c (by decide) hR hS kw_1737 hl.1 dX10_hide_2 (Nat.le_of_ble_eq_true rfl) hw (fun x2 M1 H locs hw r3 hR hS => ?_)
  refine lv_istore_n (lv' := [(2, .int (Int32.ofInt x2)), (0, .ref (α 11 0)), (1, .int (Int32.ofInt p1))]) X.1.1 X.1.2.1 dX10_hide_5 rfl hl (by decide) rfl (fun ls hl => ?_)
  refine lv_aload_n X.1.1 X.1.2.1 dX10_hide_6 rfl (lv_at hl 1 rfl) ?_
  refine lv_iload_n X.1.1 X.1.2.1 dX10_hide_7 rfl (lv_at hl 0 rfl) ?_
  refine lv_iload_n X.1.1 X.1.2.1 dX10_hide_8 rfl (lv_at hl 0 rfl) ?_
  refine sa_if_eq (tgt := 33) X.1 r3 dX10_hide_9 (by decide) (fun hc => ?_) (fun hc => ?_)
  · have hw := hw.1 hc
    exact t_X10_hide_33 X hp1 _ _ hw r3 _ _ hR hS _ (lv_sub hl [1, 2] rfl)
  · have hw := hw.2 hc
    refine lv_aload_n X.1.1 X.1.2.1 dX10_hide_12 rfl (lv_at hl 1 rfl) ?_
    refine gt_11_3 X hR (okf X.2.2.1 rfl) kw_1532 dX10_hide_13 ?_
    refine lv_iload_n X.1.1 X.1.2.1 dX10_hide_16 rfl (lv_at hl 2 rfl) ?_
    have c19 := hw.1
    have hw := hw.2
    refine ra_59 X hR (okf X.2.2.1 rfl) c19 dX10_hide_17 ?_
    have r20 := hR.r 59 0 p1
    refine sa_if_ne (tgt := 29) X.1 r20 dX10_hide_18 (by decide) (fun hc => ?_) (fun hc => ?_)
    · have hw := hw.1 hc
      exact t_X10_hide_29 X hp1 _ _ hw r3 _ _ hR hS _ (lv_sub hl [1, 2] rfl)
    · have hw := hw.2 hc
      refine lv_aload_n X.1.1 X.1.2.1 dX10_hide_21 rfl (lv_at hl 1 rfl) ?_
      refine cs_X10_visible X  (kc := 2) rmL_ok rm_c (by decide) hR hS kw_1791 hl.1 dX10_hide_22 (Nat.le_of_ble_eq_true rfl) hw (fun x37 M36 H locs hw r38 hR hS => ?_)
      refine sa_const X.1 dX10_hide_25 ?_
      have r39 := inR_ite (c := x37 ≤ 1) (inR_c (a := 0) rfl) (inR_c (a := 1) rfl)
      refine cut_j (A := ∀ v40 : Int, v40 = (if x37 ≤ 1 then (0 : Int) else 1) → WI p l e 2 s m args below meth c G e0 α κ B Qm H locs 34 ls [.int (Int32.ofInt v40), .int (Int32.ofInt x2), .ref (α 11 0)]) (fun J41 => ?_) ?_
      · refine sa_icmp_le (tgt := 33) X.1 r38 (inR_c (a := 1) rfl) dX10_hide_26 (by decide) (fun hc => ?_) (fun hc => ?_)
        · skip
          refine sa_const X.1 dX10_hide_33 ?_
          exact J41 (0) (if_pos (c := x37 ≤ 1) hc).symm
        · skip
          refine sa_const X.1 dX10_hide_29 ?_
          refine lv_goto (tgt := 34) X.1.1 X.1.2.1 dX10_hide_30 (by decide) ?_
          exact J41 (1) (if_neg (c := x37 ≤ 1) (Int.not_le.mpr hc)).symm
      intro v40 hv40
      subst hv40
      refine sa_const X.1 dX10_hide_34 ?_
      refine cs_X10_goes X r3 r39 (inR_c (a := 1) rfl) (kc := 2) rmL_ok rm_c (by decide) hR hS kw_1721 hl.1 dX10_hide_35 (Nat.le_of_ble_eq_true rfl) hw (fun x43 M42 H locs hw r44 hR hS => ?_)
      refine sa_if_ne (tgt := 43) X.1 r44 dX10_hide_38 (by decide) (fun hc => ?_) (fun hc => ?_)
      · have hw := hw.1 hc
        refine lv_aload_n X.1.1 X.1.2.1 dX10_hide_43 rfl (lv_at hl 1 rfl) ?_
        refine gt_11_3 X hR (okf X.2.2.1 rfl) kw_1532 dX10_hide_44 ?_
        refine lv_iload_n X.1.1 X.1.2.1 dX10_hide_47 rfl (lv_at hl 2 rfl) ?_
        refine lv_aload_n X.1.1 X.1.2.1 dX10_hide_48 rfl (lv_at hl 1 rfl) ?_
        refine gt_11_3 X hR (okf X.2.2.1 rfl) kw_1532 dX10_hide_49 ?_
        refine lv_iload_n X.1.1 X.1.2.1 dX10_hide_52 rfl (lv_at hl 2 rfl) ?_
        have c45 := hw.1
        have hw := hw.2
        refine ra_59 X hR (okf X.2.2.1 rfl) c45 dX10_hide_53 ?_
        have r46 := hR.r 59 0 p1
        have r47 := inR_ite (c := ¬ (M42 59 0 p1) = 0) (inR_c (a := 0) rfl) (inR_c (a := 1) rfl)
        refine cut_j (A := ∀ v48 : Int, v48 = (if ¬ (M42 59 0 p1) = 0 then (0 : Int) else 1) → WI p l e 2 s m args below meth c G e0 α κ B Qm H locs 62 ls [.int (Int32.ofInt v48), .int (Int32.ofInt p1), .ref (α 59 0)]) (fun J49 => ?_) ?_
        · refine sa_if_ne (tgt := 61) X.1 r46 dX10_hide_54 (by decide) (fun hc => ?_) (fun hc => ?_)
          · skip
            refine sa_const X.1 dX10_hide_61 ?_
            exact J49 (0) (if_pos (c := ¬ (M42 59 0 p1) = 0) hc).symm
          · skip
            refine sa_const X.1 dX10_hide_57 ?_
            refine lv_goto (tgt := 62) X.1.1 X.1.2.1 dX10_hide_58 (by decide) ?_
            exact J49 (1) (if_neg (c := ¬ (M42 59 0 p1) = 0) (fun z => z hc)).symm
        intro v48 hv48
        subst hv48
        have c50 := hw.1
        have hw := hw.2
        have c51 := hw.1
        have hw := hw.2
        refine wa_59 X hR hS (okf X.2.2.1 rfl) c51 c50 dX10_hide_62 (fun H locs hR hS => ?_)
        obtain ⟨M52, e53⟩ : ∃ z : Mem, z = up M42 59 0 p1 (if ¬ (M42 59 0 p1) = 0 then (0 : Int) else 1) := ⟨_, rfl⟩
        rw [← e53] at hR
        have hw := hw M52 e53
        refine lv_aload_n X.1.1 X.1.2.1 dX10_hide_63 rfl (lv_at hl 1 rfl) ?_
        refine gt_11_3 X hR (okf X.2.2.1 rfl) kw_1532 dX10_hide_64 ?_
        refine lv_iload_n X.1.1 X.1.2.1 dX10_hide_67 rfl (lv_at hl 2 rfl) ?_
        have c54 := hw.1
        have hw := hw.2
        refine ra_59 X hR (okf X.2.2.1 rfl) c54 dX10_hide_68 ?_
        have r55 := hR.r 59 0 p1
        have c56 := hw.1
        have hw := hw.2
        exact sa_zret X.1 X.2.2.2.1 X.2.2.2.2 hR hS c56 hw dX10_hide_69
      · have hw := hw.2 hc
        refine sa_const X.1 dX10_hide_41 ?_
        exact sa_zret X.1 X.2.2.2.1 X.2.2.2.2 hR hS (Or.inl rfl) hw dX10_hide_42
theorem m_X10_hide {l : Launch} {G : Gx} {e0 : Nat} {α : Ax} {κ : Nat → Int} {B : Nat} {p1 : Int} (hκ : kOK κ) (hp1 : inR p1) {M : Mem} {Qm : Int → Mem → Prop} (hw : wp_X10_hide p1 M Qm) : CI l yX10_hide (Cond.code yX10_hide cX10_hide 3 (some .boolean)) 2 G e0 α κ B [.ref (α 11 0), .int (Int32.ofInt p1)] M Qm :=
  CI.mk hκ (by decide +kernel) rfl (Nat.le_of_ble_eq_true rfl) (lv := [(0, .ref (α 11 0)), (1, .int (Int32.ofInt p1))]) rfl (fun p e s m args below meth c ls X hR hS hl => t_X10_hide X hp1 hw _ _ hR hS ls hl)
theorem cs_X10_hide {cc : ByteArray} {nL : Nat} {own : String} {ret : Option FieldType} {idx pc : Nat} {p1 : Int} (X : CX p m c cc nL s args own G B κ meth ret) (hp1 : inR p1) {kc : Nat} {R : Room} {cells slots : Nat} (hRr : RmOK R kc) (hcel : cells ≤ R.cells ∧ slots ≤ R.slots) (hk : 2 + 1 ≤ kc) {M : Mem} {H : Heap} {locs : List Loc} (hR : Rp G e0 α κ B M H) (hS : va_S (fun q => B ≤ q) s.heap H locs) (k1 : Cond.methodLink own idx yX10_hide ∈ gw) {ls : Array Slot} (hml : ls.size = nL) {rest : List Value} (hd : decode cc pc = .ok (.invokevirtual idx, 3)) (hrest : (rest.map fun v => v.category).sum ≤ 8) {Q : State → Prop} {Qm : Int → Mem → Prop} (hw : wp_X10_hide p1 M Qm) (kk : ∀ (r : Int) (M1 : Mem) (H1 : Heap) (locs1 : List Loc), Qm r M1 → inR r → Rp G e0 α κ B M1 H1 → va_S (fun q => B ≤ q) s.heap H1 locs1 → W p l e R s m args below meth c H1 locs1 cells slots Q (F0 m (pc + 3) ls (.int (Int32.ofInt r) :: rest))) : W p l e R s m args below meth c H locs cells slots Q (F0 m pc ls (.int (Int32.ofInt p1) :: .ref (α 11 0) :: rest)) :=
  sa_callVI 2 (n := 1) (As := [.int (Int32.ofInt p1)]) (rest := rest) X.1 X.2.1 hR hS (m_X10_hide X.2.2.1 hp1 hw) k1 kw_1788 kw_1789 kw_104 kw_1790 ⟨rfl, by decide +kernel, by decide +kernel, by decide +kernel⟩ (rm_ok hRr hk (by decide)) (rc_11 X hR (okf X.2.2.1 rfl)) rfl rfl hrest hml hd hcel kk
def wp_X10_shows_4 (p1 : Int) (Qm : Int → Mem → Prop) : Nat → Int → Int → Mem → Prop
  | 0 => fun _ _ _ => False
  | n + 1 => fun y2 y3 M => (0 ≤ p1 ∧ p1 < 100) ∧ (((M 68 0 p1) ≤ y3 → Qm y2 M) ∧ (y3 < (M 68 0 p1) → (0 ≤ p1 ∧ p1 < 100) ∧ (inR ((M 66 0 p1) + y3)) ∧ (0 ≤ ((M 66 0 p1) + y3) ∧ ((M 66 0 p1) + y3) < 6) ∧ (inR (y2 + (if (M 59 0 ((M 66 0 p1) + y3)) = 0 then (1 : Int) else 0))) ∧ (inR (y3 + 1)) ∧ wp_X10_shows_4 p1 Qm n (y2 + (if (M 59 0 ((M 66 0 p1) + y3)) = 0 then (1 : Int) else 0)) (y3 + 1) M))
def wp_X10_shows (p1 : Int) (M : Mem) (Qm : Int → Mem → Prop) : Prop := (∃ n13 : Nat, wp_X10_shows_4 p1 Qm n13 0 0 M)
set_option maxHeartbeats 4000000 in
set_option maxRecDepth 100000 in
theorem t_X10_shows_4 {p1 : Int} (X : CX p m c cX10_shows 4 s args RX10 G B κ meth (some .int)) (hp1 : inR p1) {Qm : Int → Mem → Prop} : ∀ n : Nat, ∀ y2 : Int, ∀ y3 : Int, ∀ M : Mem, wp_X10_shows_4 p1 Qm n y2 y3 M → inR y2 → inR y3 → ∀ (H : Heap) (locs : List Loc), Rp G e0 α κ B M H → va_S (fun q => B ≤ q) s.heap H locs → ∀ (ls : Array Slot), lv_has ls 4 [(0, .ref (α 11 0)), (1, .int (Int32.ofInt p1)), (2, .int (Int32.ofInt y2)), (3, .int (Int32.ofInt y3))] → WI p l e 0 s m args below meth c G e0 α κ B Qm H locs 4 ls [] := by
  intro n
  induction n with
  | zero =>
    intro y2 y3 M hw hy2 hy3 H locs hR hS ls hl
    exact hw.elim
  | succ n ih =>
    intro y2 y3 M hw hy2 hy3 H locs hR hS ls hl
    have hw : (0 ≤ p1 ∧ p1 < 100) ∧ (((M 68 0 p1) ≤ y3 → Qm y2 M) ∧ (y3 < (M 68 0 p1) → (0 ≤ p1 ∧ p1 < 100) ∧ (inR ((M 66 0 p1) + y3)) ∧ (0 ≤ ((M 66 0 p1) + y3) ∧ ((M 66 0 p1) + y3) < 6) ∧ (inR (y2 + (if (M 59 0 ((M 66 0 p1) + y3)) = 0 then (1 : Int) else 0))) ∧ (inR (y3 + 1)) ∧ wp_X10_shows_4 p1 Qm n (y2 + (if (M 59 0 ((M 66 0 p1) + y3)) = 0 then (1 : Int) else 0)) (y3 + 1) M)) := hw
    refine lv_iload_n X.1.1 X.1.2.1 dX10_shows_4 rfl (lv_at hl 3 rfl) ?_
    refine lv_aload_n X.1.1 X.1.2.1 dX10_shows_5 rfl (lv_at hl 0 rfl) ?_
    refine gt_11_14 X hR (okf X.2.2.1 rfl) kw_1543 dX10_shows_6 ?_
    refine lv_iload_n X.1.1 X.1.2.1 dX10_shows_9 rfl (lv_at hl 1 rfl) ?_
    have c1 := hw.1
    have hw := hw.2
    refine ra_68 X hR (okf X.2.2.1 rfl) c1 dX10_shows_10 ?_
    have r2 := hR.r 68 0 p1
    refine sa_icmp_ge (tgt := 44) X.1 hy3 r2 dX10_shows_11 (by decide) (fun hc => ?_) (fun hc => ?_)
    · have hw := hw.1 hc
      refine lv_iload_n X.1.1 X.1.2.1 dX10_shows_44 rfl (lv_at hl 2 rfl) ?_
      exact sa_iret X.1 X.2.2.2.1 X.2.2.2.2 hR hS hy2 hw dX10_shows_45
    · have hw := hw.2 hc
      refine lv_iload_n X.1.1 X.1.2.1 dX10_shows_14 rfl (lv_at hl 2 rfl) ?_
      refine lv_aload_n X.1.1 X.1.2.1 dX10_shows_15 rfl (lv_at hl 0 rfl) ?_
      refine gt_11_3 X hR (okf X.2.2.1 rfl) kw_1532 dX10_shows_16 ?_
      refine lv_aload_n X.1.1 X.1.2.1 dX10_shows_19 rfl (lv_at hl 0 rfl) ?_
      refine gt_11_12 X hR (okf X.2.2.1 rfl) kw_1541 dX10_shows_20 ?_
      refine lv_iload_n X.1.1 X.1.2.1 dX10_shows_23 rfl (lv_at hl 1 rfl) ?_
      have c3 := hw.1
      have hw := hw.2
      refine ra_66 X hR (okf X.2.2.1 rfl) c3 dX10_shows_24 ?_
      have r4 := hR.r 66 0 p1
      refine lv_iload_n X.1.1 X.1.2.1 dX10_shows_25 rfl (lv_at hl 3 rfl) ?_
      have c5 := hw.1
      have hw := hw.2
      refine sa_iadd X.1 dX10_shows_26 ?_
      have c6 := hw.1
      have hw := hw.2
      refine ra_59 X hR (okf X.2.2.1 rfl) c6 dX10_shows_27 ?_
      have r7 := hR.r 59 0 ((M 66 0 p1) + y3)
      have r8 := inR_ite (c := (M 59 0 ((M 66 0 p1) + y3)) = 0) (inR_c (a := 1) rfl) (inR_c (a := 0) rfl)
      refine cut_j (A := ∀ v9 : Int, v9 = (if (M 59 0 ((M 66 0 p1) + y3)) = 0 then (1 : Int) else 0) → WI p l e 0 s m args below meth c G e0 α κ B Qm H locs 36 ls [.int (Int32.ofInt v9), .int (Int32.ofInt y2)]) (fun J10 => ?_) ?_
      · refine sa_if_eq (tgt := 35) X.1 r7 dX10_shows_28 (by decide) (fun hc => ?_) (fun hc => ?_)
        · skip
          refine sa_const X.1 dX10_shows_35 ?_
          exact J10 (1) (if_pos (c := (M 59 0 ((M 66 0 p1) + y3)) = 0) hc).symm
        · skip
          refine sa_const X.1 dX10_shows_31 ?_
          refine lv_goto (tgt := 36) X.1.1 X.1.2.1 dX10_shows_32 (by decide) ?_
          exact J10 (0) (if_neg (c := (M 59 0 ((M 66 0 p1) + y3)) = 0) hc).symm
      intro v9 hv9
      subst hv9
      have c11 := hw.1
      have hw := hw.2
      refine sa_iadd X.1 dX10_shows_36 ?_
      refine lv_istore_n (lv' := [(2, .int (Int32.ofInt (y2 + (if (M 59 0 ((M 66 0 p1) + y3)) = 0 then (1 : Int) else 0)))), (0, .ref (α 11 0)), (1, .int (Int32.ofInt p1)), (3, .int (Int32.ofInt y3))]) X.1.1 X.1.2.1 dX10_shows_37 rfl hl (by decide) rfl (fun ls hl => ?_)
      have c12 := hw.1
      have hw := hw.2
      refine lv_iinc (v := Int32.ofInt (y3 + 1)) (lv' := [(3, .int (Int32.ofInt (y3 + 1))), (2, .int (Int32.ofInt (y2 + (if (M 59 0 ((M 66 0 p1) + y3)) = 0 then (1 : Int) else 0)))), (0, .ref (α 11 0)), (1, .int (Int32.ofInt p1))]) X.1.1 X.1.2.1 dX10_shows_38 hl (k := 3) rfl (Int32.ofInt_add _ _).symm (by decide) rfl (fun ls hl => ?_)
      refine lv_goto (tgt := 4) X.1.1 X.1.2.1 dX10_shows_41 (by decide) ?_
      exact ih _ _ _ hw c11 c12 _ _ hR hS _ (lv_sub hl [2, 3, 1, 0] rfl)
set_option maxHeartbeats 4000000 in
set_option maxRecDepth 100000 in
theorem t_X10_shows {p1 : Int} (X : CX p m c cX10_shows 4 s args RX10 G B κ meth (some .int)) (hp1 : inR p1) {M : Mem} {Qm : Int → Mem → Prop} (hw : wp_X10_shows p1 M Qm) (H : Heap) (locs : List Loc) (hR : Rp G e0 α κ B M H) (hS : va_S (fun q => B ≤ q) s.heap H locs) (ls : Array Slot) (hl : lv_has ls 4 [(0, .ref (α 11 0)), (1, .int (Int32.ofInt p1))]) : WI p l e 0 s m args below meth c G e0 α κ B Qm H locs 0 ls [] := by
  have hw : (∃ n13 : Nat, wp_X10_shows_4 p1 Qm n13 0 0 M) := hw
  refine sa_const X.1 dX10_shows_0 ?_
  refine lv_istore_n (lv' := [(2, .int (Int32.ofInt 0)), (0, .ref (α 11 0)), (1, .int (Int32.ofInt p1))]) X.1.1 X.1.2.1 dX10_shows_1 rfl hl (by decide) rfl (fun ls hl => ?_)
  refine sa_const X.1 dX10_shows_2 ?_
  refine lv_istore_n (lv' := [(3, .int (Int32.ofInt 0)), (2, .int (Int32.ofInt 0)), (0, .ref (α 11 0)), (1, .int (Int32.ofInt p1))]) X.1.1 X.1.2.1 dX10_shows_3 rfl hl (by decide) rfl (fun ls hl => ?_)
  obtain ⟨n13, hw⟩ := hw
  exact t_X10_shows_4 X hp1 n13 _ _ _ hw (inR_c (a := 0) rfl) (inR_c (a := 0) rfl) _ _ hR hS _ (lv_sub hl [2, 3, 1, 0] rfl)
theorem m_X10_shows {l : Launch} {G : Gx} {e0 : Nat} {α : Ax} {κ : Nat → Int} {B : Nat} {p1 : Int} (hκ : kOK κ) (hp1 : inR p1) {M : Mem} {Qm : Int → Mem → Prop} (hw : wp_X10_shows p1 M Qm) : CI l yX10_shows (Cond.code yX10_shows cX10_shows 4 (some .int)) 0 G e0 α κ B [.ref (α 11 0), .int (Int32.ofInt p1)] M Qm :=
  CI.mk hκ (by decide +kernel) rfl (Nat.le_of_ble_eq_true rfl) (lv := [(0, .ref (α 11 0)), (1, .int (Int32.ofInt p1))]) rfl (fun p e s m args below meth c ls X hR hS hl => t_X10_shows X hp1 hw _ _ hR hS ls hl)
theorem cs_X10_shows {cc : ByteArray} {nL : Nat} {own : String} {ret : Option FieldType} {idx pc : Nat} {p1 : Int} (X : CX p m c cc nL s args own G B κ meth ret) (hp1 : inR p1) {kc : Nat} {R : Room} {cells slots : Nat} (hRr : RmOK R kc) (hcel : cells ≤ R.cells ∧ slots ≤ R.slots) (hk : 0 + 1 ≤ kc) {M : Mem} {H : Heap} {locs : List Loc} (hR : Rp G e0 α κ B M H) (hS : va_S (fun q => B ≤ q) s.heap H locs) (k1 : Cond.methodLink own idx yX10_shows ∈ gw) {ls : Array Slot} (hml : ls.size = nL) {rest : List Value} (hd : decode cc pc = .ok (.invokevirtual idx, 3)) (hrest : (rest.map fun v => v.category).sum ≤ 8) {Q : State → Prop} {Qm : Int → Mem → Prop} (hw : wp_X10_shows p1 M Qm) (kk : ∀ (r : Int) (M1 : Mem) (H1 : Heap) (locs1 : List Loc), Qm r M1 → inR r → Rp G e0 α κ B M1 H1 → va_S (fun q => B ≤ q) s.heap H1 locs1 → W p l e R s m args below meth c H1 locs1 cells slots Q (F0 m (pc + 3) ls (.int (Int32.ofInt r) :: rest))) : W p l e R s m args below meth c H locs cells slots Q (F0 m pc ls (.int (Int32.ofInt p1) :: .ref (α 11 0) :: rest)) :=
  sa_callVI 0 (n := 1) (As := [.int (Int32.ofInt p1)]) (rest := rest) X.1 X.2.1 hR hS (m_X10_shows X.2.2.1 hp1 hw) k1 kw_1831 kw_54 kw_104 kw_1832 ⟨rfl, by decide +kernel, by decide +kernel, by decide +kernel⟩ (rm_ok hRr hk (by decide)) (rc_11 X hR (okf X.2.2.1 rfl)) rfl rfl hrest hml hd hcel kk
def wp_X10_figureOf (p1 : Int) (p2 : Int) (M : Mem) (Qm : Int → Mem → Prop) : Prop := (inR (6 * p1)) ∧ (inR ((6 * p1) + p2)) ∧ (0 ≤ ((6 * p1) + p2) ∧ ((6 * p1) + p2) < 174) ∧ (inR ((M 69 0 ((6 * p1) + p2)) - 1)) ∧ (0 ≤ ((M 69 0 ((6 * p1) + p2)) - 1) → (0 ≤ p2 ∧ p2 < 6) ∧ ((M 59 0 p2) = 0 → (0 ≤ ((M 69 0 ((6 * p1) + p2)) - 1) ∧ ((M 69 0 ((6 * p1) + p2)) - 1) < 100) ∧ True) ∧ True) ∧ Qm (if ((M 69 0 ((6 * p1) + p2)) - 1) < 0 then ((-1) : Int) else (if ¬ (M 59 0 p2) = 0 then ((-1) : Int) else (if (M 73 0 ((M 69 0 ((6 * p1) + p2)) - 1)) = 0 then ((-1) : Int) else ((M 69 0 ((6 * p1) + p2)) - 1)))) M
set_option maxHeartbeats 4000000 in
set_option maxRecDepth 100000 in
theorem t_X10_figureOf {p1 : Int} {p2 : Int} (X : CX p m c cX10_figureOf 4 s args RX10 G B κ meth (some .int)) (hp1 : inR p1) (hp2 : inR p2) {M : Mem} {Qm : Int → Mem → Prop} (hw : wp_X10_figureOf p1 p2 M Qm) (H : Heap) (locs : List Loc) (hR : Rp G e0 α κ B M H) (hS : va_S (fun q => B ≤ q) s.heap H locs) (ls : Array Slot) (hl : lv_has ls 4 [(0, .ref (α 11 0)), (1, .int (Int32.ofInt p1)), (2, .int (Int32.ofInt p2))]) : WI p l e 0 s m args below meth c G e0 α κ B Qm H locs 0 ls [] := by
  have hw : (inR (6 * p1)) ∧ (inR ((6 * p1) + p2)) ∧ (0 ≤ ((6 * p1) + p2) ∧ ((6 * p1) + p2) < 174) ∧ (inR ((M 69 0 ((6 * p1) + p2)) - 1)) ∧ (0 ≤ ((M 69 0 ((6 * p1) + p2)) - 1) → (0 ≤ p2 ∧ p2 < 6) ∧ ((M 59 0 p2) = 0 → (0 ≤ ((M 69 0 ((6 * p1) + p2)) - 1) ∧ ((M 69 0 ((6 * p1) + p2)) - 1) < 100) ∧ True) ∧ True) ∧ Qm (if ((M 69 0 ((6 * p1) + p2)) - 1) < 0 then ((-1) : Int) else (if ¬ (M 59 0 p2) = 0 then ((-1) : Int) else (if (M 73 0 ((M 69 0 ((6 * p1) + p2)) - 1)) = 0 then ((-1) : Int) else ((M 69 0 ((6 * p1) + p2)) - 1)))) M := hw
  refine lv_aload_n X.1.1 X.1.2.1 dX10_figureOf_0 rfl (lv_at hl 0 rfl) ?_
  refine gt_11_16 X hR (okf X.2.2.1 rfl) kw_1545 dX10_figureOf_1 ?_
  refine sa_bipush X.1 dX10_figureOf_4 (by decide) ?_
  refine lv_iload_n X.1.1 X.1.2.1 dX10_figureOf_6 rfl (lv_at hl 1 rfl) ?_
  have c1 := hw.1
  have hw := hw.2
  refine sa_imul X.1 dX10_figureOf_7 ?_
  refine lv_iload_n X.1.1 X.1.2.1 dX10_figureOf_8 rfl (lv_at hl 2 rfl) ?_
  have c2 := hw.1
  have hw := hw.2
  refine sa_iadd X.1 dX10_figureOf_9 ?_
  have c3 := hw.1
  have hw := hw.2
  refine ra_69 X hR (okf X.2.2.1 rfl) c3 dX10_figureOf_10 ?_
  have r4 := hR.r 69 0 ((6 * p1) + p2)
  refine sa_const X.1 dX10_figureOf_11 ?_
  have c5 := hw.1
  have hw := hw.2
  refine sa_isub X.1 dX10_figureOf_12 ?_
  refine lv_istore_n (lv' := [(3, .int (Int32.ofInt ((M 69 0 ((6 * p1) + p2)) - 1))), (0, .ref (α 11 0)), (1, .int (Int32.ofInt p1)), (2, .int (Int32.ofInt p2))]) X.1.1 X.1.2.1 dX10_figureOf_13 rfl hl (by decide) rfl (fun ls hl => ?_)
  refine lv_iload_n X.1.1 X.1.2.1 dX10_figureOf_14 rfl (lv_at hl 0 rfl) ?_
  have s13 := hw.1
  have hw := hw.2
  have r14 := inR_ite (c := ((M 69 0 ((6 * p1) + p2)) - 1) < 0) (inR_c (a := -1) rfl) (inR_ite (c := ¬ (M 59 0 p2) = 0) (inR_c (a := -1) rfl) (inR_ite (c := (M 73 0 ((M 69 0 ((6 * p1) + p2)) - 1)) = 0) (inR_c (a := -1) rfl) c5))
  refine cut_j (A := ∀ v15 : Int, v15 = (if ((M 69 0 ((6 * p1) + p2)) - 1) < 0 then ((-1) : Int) else (if ¬ (M 59 0 p2) = 0 then ((-1) : Int) else (if (M 73 0 ((M 69 0 ((6 * p1) + p2)) - 1)) = 0 then ((-1) : Int) else ((M 69 0 ((6 * p1) + p2)) - 1)))) → WI p l e 0 s m args below meth c G e0 α κ B Qm H locs 41 ls [.int (Int32.ofInt v15)]) (fun J16 => ?_) ?_
  · refine sa_if_lt (tgt := 40) X.1 c5 dX10_figureOf_15 (by decide) (fun hc => ?_) (fun hc => ?_)
    · skip
      refine sa_const X.1 dX10_figureOf_40 ?_
      exact J16 ((-1)) (if_pos (c := ((M 69 0 ((6 * p1) + p2)) - 1) < 0) hc).symm
    · have hw := s13 hc
      refine lv_aload_n X.1.1 X.1.2.1 dX10_figureOf_18 rfl (lv_at hl 1 rfl) ?_
      refine gt_11_3 X hR (okf X.2.2.1 rfl) kw_1532 dX10_figureOf_19 ?_
      refine lv_iload_n X.1.1 X.1.2.1 dX10_figureOf_22 rfl (lv_at hl 3 rfl) ?_
      have c6 := hw.1
      have hw := hw.2
      refine ra_59 X hR (okf X.2.2.1 rfl) c6 dX10_figureOf_23 ?_
      have s10 := hw.1
      have hw := hw.2
      refine cut_j (A := ∀ v11 : Int, v11 = (if ¬ (M 59 0 p2) = 0 then ((-1) : Int) else (if (M 73 0 ((M 69 0 ((6 * p1) + p2)) - 1)) = 0 then ((-1) : Int) else ((M 69 0 ((6 * p1) + p2)) - 1))) → WI p l e 0 s m args below meth c G e0 α κ B Qm H locs 41 ls [.int (Int32.ofInt v11)]) (fun J12 => ?_) ?_
      · refine sa_if_ne (tgt := 40) X.1 (hR.r 59 0 p2) dX10_figureOf_24 (by decide) (fun hc => ?_) (fun hc => ?_)
        · skip
          refine sa_const X.1 dX10_figureOf_40 ?_
          exact J12 ((-1)) (if_pos (c := ¬ (M 59 0 p2) = 0) hc).symm
        · have hw := s10 hc
          refine lv_aload_n X.1.1 X.1.2.1 dX10_figureOf_27 rfl (lv_at hl 1 rfl) ?_
          refine gt_11_20 X hR (okf X.2.2.1 rfl) kw_1549 dX10_figureOf_28 ?_
          refine lv_iload_n X.1.1 X.1.2.1 dX10_figureOf_31 rfl (lv_at hl 0 rfl) ?_
          have c7 := hw.1
          have hw := hw.2
          refine ra_73 X hR (okf X.2.2.1 rfl) c7 dX10_figureOf_32 ?_
          refine cut_j (A := ∀ v8 : Int, v8 = (if (M 73 0 ((M 69 0 ((6 * p1) + p2)) - 1)) = 0 then ((-1) : Int) else ((M 69 0 ((6 * p1) + p2)) - 1)) → WI p l e 0 s m args below meth c G e0 α κ B Qm H locs 41 ls [.int (Int32.ofInt v8)]) (fun J9 => ?_) ?_
          · refine sa_if_eq (tgt := 40) X.1 (hR.r 73 0 ((M 69 0 ((6 * p1) + p2)) - 1)) dX10_figureOf_33 (by decide) (fun hc => ?_) (fun hc => ?_)
            · skip
              refine sa_const X.1 dX10_figureOf_40 ?_
              exact J9 ((-1)) (if_pos (c := (M 73 0 ((M 69 0 ((6 * p1) + p2)) - 1)) = 0) hc).symm
            · skip
              refine lv_iload_n X.1.1 X.1.2.1 dX10_figureOf_36 rfl (lv_at hl 0 rfl) ?_
              refine lv_goto (tgt := 41) X.1.1 X.1.2.1 dX10_figureOf_37 (by decide) ?_
              exact J9 (((M 69 0 ((6 * p1) + p2)) - 1)) (if_neg (c := (M 73 0 ((M 69 0 ((6 * p1) + p2)) - 1)) = 0) hc).symm
          intro v8 hv8
          subst hv8
          exact J12 ((if (M 73 0 ((M 69 0 ((6 * p1) + p2)) - 1)) = 0 then ((-1) : Int) else ((M 69 0 ((6 * p1) + p2)) - 1))) (if_neg (c := ¬ (M 59 0 p2) = 0) (fun z => z hc)).symm
      intro v11 hv11
      subst hv11
      exact J16 ((if ¬ (M 59 0 p2) = 0 then ((-1) : Int) else (if (M 73 0 ((M 69 0 ((6 * p1) + p2)) - 1)) = 0 then ((-1) : Int) else ((M 69 0 ((6 * p1) + p2)) - 1)))) (if_neg (c := ((M 69 0 ((6 * p1) + p2)) - 1) < 0) (Int.not_lt.mpr hc)).symm
  intro v15 hv15
  subst hv15
  exact sa_iret X.1 X.2.2.2.1 X.2.2.2.2 hR hS r14 hw dX10_figureOf_41
theorem m_X10_figureOf {l : Launch} {G : Gx} {e0 : Nat} {α : Ax} {κ : Nat → Int} {B : Nat} {p1 : Int} {p2 : Int} (hκ : kOK κ) (hp1 : inR p1) (hp2 : inR p2) {M : Mem} {Qm : Int → Mem → Prop} (hw : wp_X10_figureOf p1 p2 M Qm) : CI l yX10_figureOf (Cond.code yX10_figureOf cX10_figureOf 4 (some .int)) 0 G e0 α κ B [.ref (α 11 0), .int (Int32.ofInt p1), .int (Int32.ofInt p2)] M Qm :=
  CI.mk hκ (by decide +kernel) rfl (Nat.le_of_ble_eq_true rfl) (lv := [(0, .ref (α 11 0)), (1, .int (Int32.ofInt p1)), (2, .int (Int32.ofInt p2))]) rfl (fun p e s m args below meth c ls X hR hS hl => t_X10_figureOf X hp1 hp2 hw _ _ hR hS ls hl)
theorem cs_X10_figureOf {cc : ByteArray} {nL : Nat} {own : String} {ret : Option FieldType} {idx pc : Nat} {p1 : Int} {p2 : Int} (X : CX p m c cc nL s args own G B κ meth ret) (hp1 : inR p1) (hp2 : inR p2) {kc : Nat} {R : Room} {cells slots : Nat} (hRr : RmOK R kc) (hcel : cells ≤ R.cells ∧ slots ≤ R.slots) (hk : 0 + 1 ≤ kc) {M : Mem} {H : Heap} {locs : List Loc} (hR : Rp G e0 α κ B M H) (hS : va_S (fun q => B ≤ q) s.heap H locs) (k1 : Cond.methodLink own idx yX10_figureOf ∈ gw) {ls : Array Slot} (hml : ls.size = nL) {rest : List Value} (hd : decode cc pc = .ok (.invokevirtual idx, 3)) (hrest : (rest.map fun v => v.category).sum ≤ 8) {Q : State → Prop} {Qm : Int → Mem → Prop} (hw : wp_X10_figureOf p1 p2 M Qm) (kk : ∀ (r : Int) (M1 : Mem) (H1 : Heap) (locs1 : List Loc), Qm r M1 → inR r → Rp G e0 α κ B M1 H1 → va_S (fun q => B ≤ q) s.heap H1 locs1 → W p l e R s m args below meth c H1 locs1 cells slots Q (F0 m (pc + 3) ls (.int (Int32.ofInt r) :: rest))) : W p l e R s m args below meth c H locs cells slots Q (F0 m pc ls (.int (Int32.ofInt p2) :: .int (Int32.ofInt p1) :: .ref (α 11 0) :: rest)) :=
  sa_callVI 0 (n := 2) (As := [.int (Int32.ofInt p1), .int (Int32.ofInt p2)]) (rest := rest) X.1 X.2.1 hR hS (m_X10_figureOf X.2.2.1 hp1 hp2 hw) k1 kw_1805 kw_50 kw_104 kw_1806 ⟨rfl, by decide +kernel, by decide +kernel, by decide +kernel⟩ (rm_ok hRr hk (by decide)) (rc_11 X hR (okf X.2.2.1 rfl)) rfl rfl hrest hml hd hcel kk
def wp_X10_isBehind_28 (p1 : Int) (p2 : Int) (p3 : Int) (p4 : Int) (Qm : Int → Mem → Prop) (y5 : Int) (y6 : Int) (M : Mem) : Prop := (bit (if ¬ y5 = (-1) then (0 : Int) else (if y6 = (-1) then (0 : Int) else 1))) ∧ Qm (if ¬ y5 = (-1) then (0 : Int) else (if y6 = (-1) then (0 : Int) else 1)) M
def wp_X10_isBehind (p1 : Int) (p2 : Int) (p3 : Int) (p4 : Int) (M : Mem) (Qm : Int → Mem → Prop) : Prop := wp_X10_figureOf p1 p3 M fun (x2 : Int) (M1 : Mem) => wp_X10_figureOf p2 p3 M1 fun (x5 : Int) (M4 : Mem) => ((x2 = (-1) → wp_X10_isBehind_28 p1 p2 p3 p4 Qm x2 x5 M4) ∧ (¬ x2 = (-1) → ((¬ x5 = (-1) → (p4 = 0 → (0 ≤ x2 ∧ x2 < 100) ∧ (0 ≤ x5 ∧ x5 < 100) ∧ True) ∧ (¬ p4 = 0 → (0 ≤ x2 ∧ x2 < 100) ∧ (0 ≤ x5 ∧ x5 < 100) ∧ True) ∧ (bit (if p4 = 0 then (if (M4 74 0 x2) ≤ (M4 74 0 x5) then (0 : Int) else 1) else (if (M4 74 0 x5) ≤ (M4 74 0 x2) then (0 : Int) else 1))) ∧ Qm (if p4 = 0 then (if (M4 74 0 x2) ≤ (M4 74 0 x5) then (0 : Int) else 1) else (if (M4 74 0 x5) ≤ (M4 74 0 x2) then (0 : Int) else 1)) M4) ∧ (x5 = (-1) → wp_X10_isBehind_28 p1 p2 p3 p4 Qm x2 x5 M4))))
set_option maxHeartbeats 4000000 in
set_option maxRecDepth 100000 in
theorem t_X10_isBehind_28 {p1 : Int} {p2 : Int} {p3 : Int} {p4 : Int} (X : CX p m c cX10_isBehind 7 s args RX10 G B κ meth (some .boolean)) (hp1 : inR p1) (hp2 : inR p2) (hp3 : inR p3) (hp4 : inR p4) {Qm : Int → Mem → Prop} : ∀ y5 : Int, ∀ y6 : Int, ∀ M : Mem, wp_X10_isBehind_28 p1 p2 p3 p4 Qm y5 y6 M → inR y5 → inR y6 → ∀ (H : Heap) (locs : List Loc), Rp G e0 α κ B M H → va_S (fun q => B ≤ q) s.heap H locs → ∀ (ls : Array Slot), lv_has ls 7 [(5, .int (Int32.ofInt y5)), (6, .int (Int32.ofInt y6))] → WI p l e 1 s m args below meth c G e0 α κ B Qm H locs 28 ls [] := by
  intro y5 y6 M hw hy5 hy6 H locs hR hS ls hl
  have hw : (bit (if ¬ y5 = (-1) then (0 : Int) else (if y6 = (-1) then (0 : Int) else 1))) ∧ Qm (if ¬ y5 = (-1) then (0 : Int) else (if y6 = (-1) then (0 : Int) else 1)) M := hw
  refine lv_iload X.1.1 X.1.2.1 dX10_isBehind_28 (lv_at hl 0 rfl) ?_
  refine sa_const X.1 dX10_isBehind_30 ?_
  have r9 := inR_ite (c := ¬ y5 = (-1)) (inR_c (a := 0) rfl) (inR_ite (c := y6 = (-1)) (inR_c (a := 0) rfl) (inR_c (a := 1) rfl))
  refine cut_j (A := ∀ v10 : Int, v10 = (if ¬ y5 = (-1) then (0 : Int) else (if y6 = (-1) then (0 : Int) else 1)) → WI p l e 1 s m args below meth c G e0 α κ B Qm H locs 45 ls [.int (Int32.ofInt v10)]) (fun J11 => ?_) ?_
  · refine sa_icmp_ne (tgt := 44) X.1 hy5 (inR_c (a := -1) rfl) dX10_isBehind_31 (by decide) (fun hc => ?_) (fun hc => ?_)
    · skip
      refine sa_const X.1 dX10_isBehind_44 ?_
      exact J11 (0) (if_pos (c := ¬ y5 = (-1)) hc).symm
    · skip
      refine lv_iload X.1.1 X.1.2.1 dX10_isBehind_34 (lv_at hl 1 rfl) ?_
      refine sa_const X.1 dX10_isBehind_36 ?_
      refine cut_j (A := ∀ v7 : Int, v7 = (if y6 = (-1) then (0 : Int) else 1) → WI p l e 1 s m args below meth c G e0 α κ B Qm H locs 45 ls [.int (Int32.ofInt v7)]) (fun J8 => ?_) ?_
      · refine sa_icmp_eq (tgt := 44) X.1 hy6 (inR_c (a := -1) rfl) dX10_isBehind_37 (by decide) (fun hc => ?_) (fun hc => ?_)
        · skip
          refine sa_const X.1 dX10_isBehind_44 ?_
          exact J8 (0) (if_pos (c := y6 = (-1)) hc).symm
        · skip
          refine sa_const X.1 dX10_isBehind_40 ?_
          refine lv_goto (tgt := 45) X.1.1 X.1.2.1 dX10_isBehind_41 (by decide) ?_
          exact J8 (1) (if_neg (c := y6 = (-1)) hc).symm
      intro v7 hv7
      subst hv7
      exact J11 ((if y6 = (-1) then (0 : Int) else 1)) (if_neg (c := ¬ y5 = (-1)) (fun z => z hc)).symm
  intro v10 hv10
  subst hv10
  have c12 := hw.1
  have hw := hw.2
  exact sa_zret X.1 X.2.2.2.1 X.2.2.2.2 hR hS c12 hw dX10_isBehind_45
set_option maxHeartbeats 4000000 in
set_option maxRecDepth 100000 in
theorem t_X10_isBehind {p1 : Int} {p2 : Int} {p3 : Int} {p4 : Int} (X : CX p m c cX10_isBehind 7 s args RX10 G B κ meth (some .boolean)) (hp1 : inR p1) (hp2 : inR p2) (hp3 : inR p3) (hp4 : inR p4) {M : Mem} {Qm : Int → Mem → Prop} (hw : wp_X10_isBehind p1 p2 p3 p4 M Qm) (H : Heap) (locs : List Loc) (hR : Rp G e0 α κ B M H) (hS : va_S (fun q => B ≤ q) s.heap H locs) (ls : Array Slot) (hl : lv_has ls 7 [(0, .ref (α 11 0)), (1, .int (Int32.ofInt p1)), (2, .int (Int32.ofInt p2)), (3, .int (Int32.ofInt p3)), (4, .int (Int32.ofInt p4))]) : WI p l e 1 s m args below meth c G e0 α κ B Qm H locs 0 ls [] := by
  have hw : wp_X10_figureOf p1 p3 M fun (x2 : Int) (M1 : Mem) => wp_X10_figureOf p2 p3 M1 fun (x5 : Int) (M4 : Mem) => ((x2 = (-1) → wp_X10_isBehind_28 p1 p2 p3 p4 Qm x2 x5 M4) ∧ (¬ x2 = (-1) → ((¬ x5 = (-1) → (p4 = 0 → (0 ≤ x2 ∧ x2 < 100) ∧ (0 ≤ x5 ∧ x5 < 100) ∧ True) ∧ (¬ p4 = 0 → (0 ≤ x2 ∧ x2 < 100) ∧ (0 ≤ x5 ∧ x5 < 100) ∧ True) ∧ (bit (if p4 = 0 then (if (M4 74 0 x2) ≤ (M4 74 0 x5) then (0 : Int) else 1) else (if (M4 74 0 x5) ≤ (M4 74 0 x2) then (0 : Int) else 1))) ∧ Qm (if p4 = 0 then (if (M4 74 0 x2) ≤ (M4 74 0 x5) then (0 : Int) else 1) else (if (M4 74 0 x5) ≤ (M4 74 0 x2) then (0 : Int) else 1)) M4) ∧ (x5 = (-1) → wp_X10_isBehind_28 p1 p2 p3 p4 Qm x2 x5 M4)))) := hw
  refine lv_aload_n X.1.1 X.1.2.1 dX10_isBehind_0 rfl (lv_at hl 0 rfl) ?_
  refine lv_iload_n X.1.1 X.1.2.1 dX10_isBehind_1 rfl (lv_at hl 1 rfl) ?_
  refine lv_iload_n X.1.1 X.1.2.1 dX10_isBehind_2 rfl (lv_at hl 3 rfl) ?_
  refine cs_X10_figureOf X hp1 hp3 (kc := 1) rmL_ok rm_c (by decide) hR hS kw_1803 hl.1 dX10_isBehind_3 (Nat.le_of_ble_eq_true rfl) hw (fun x2 M1 H locs hw r3 hR hS => ?_)
  refine lv_istore (lv' := [(5, .int (Int32.ofInt x2)), (0, .ref (α 11 0)), (1, .int (Int32.ofInt p1)), (2, .int (Int32.ofInt p2)), (3, .int (Int32.ofInt p3)), (4, .int (Int32.ofInt p4))]) X.1.1 X.1.2.1 dX10_isBehind_6 hl (by decide) rfl (fun ls hl => ?_)
  refine lv_aload_n X.1.1 X.1.2.1 dX10_isBehind_8 rfl (lv_at hl 1 rfl) ?_
  refine lv_iload_n X.1.1 X.1.2.1 dX10_isBehind_9 rfl (lv_at hl 3 rfl) ?_
  refine lv_iload_n X.1.1 X.1.2.1 dX10_isBehind_10 rfl (lv_at hl 4 rfl) ?_
  refine cs_X10_figureOf X hp2 hp3 (kc := 1) rmL_ok rm_c (by decide) hR hS kw_1803 hl.1 dX10_isBehind_11 (Nat.le_of_ble_eq_true rfl) hw (fun x5 M4 H locs hw r6 hR hS => ?_)
  refine lv_istore (lv' := [(6, .int (Int32.ofInt x5)), (5, .int (Int32.ofInt x2)), (0, .ref (α 11 0)), (1, .int (Int32.ofInt p1)), (2, .int (Int32.ofInt p2)), (3, .int (Int32.ofInt p3)), (4, .int (Int32.ofInt p4))]) X.1.1 X.1.2.1 dX10_isBehind_14 hl (by decide) rfl (fun ls hl => ?_)
  refine lv_iload X.1.1 X.1.2.1 dX10_isBehind_16 (lv_at hl 1 rfl) ?_
  refine sa_const X.1 dX10_isBehind_18 ?_
  refine sa_icmp_eq (tgt := 28) X.1 r3 (inR_c (a := -1) rfl) dX10_isBehind_19 (by decide) (fun hc => ?_) (fun hc => ?_)
  · have hw := hw.1 hc
    exact t_X10_isBehind_28 X hp1 hp2 hp3 hp4 _ _ _ hw r3 r6 _ _ hR hS _ (lv_sub hl [1, 0] rfl)
  · have hw := hw.2 hc
    refine lv_iload X.1.1 X.1.2.1 dX10_isBehind_22 (lv_at hl 0 rfl) ?_
    refine sa_const X.1 dX10_isBehind_24 ?_
    refine sa_icmp_ne (tgt := 46) X.1 r6 (inR_c (a := -1) rfl) dX10_isBehind_25 (by decide) (fun hc => ?_) (fun hc => ?_)
    · have hw := hw.1 hc
      refine lv_iload X.1.1 X.1.2.1 dX10_isBehind_46 (lv_at hl 6 rfl) ?_
      have s21 := hw.1
      have hw := hw.2
      have s22 := hw.1
      have hw := hw.2
      have r23 := inR_ite (c := p4 = 0) (inR_ite (c := (M4 74 0 x2) ≤ (M4 74 0 x5)) (inR_c (a := 0) rfl) (inR_c (a := 1) rfl)) (inR_ite (c := (M4 74 0 x5) ≤ (M4 74 0 x2)) (inR_c (a := 0) rfl) (inR_c (a := 1) rfl))
      refine cut_j (A := ∀ v24 : Int, v24 = (if p4 = 0 then (if (M4 74 0 x2) ≤ (M4 74 0 x5) then (0 : Int) else 1) else (if (M4 74 0 x5) ≤ (M4 74 0 x2) then (0 : Int) else 1)) → WI p l e 1 s m args below meth c G e0 α κ B Qm H locs 98 ls [.int (Int32.ofInt v24)]) (fun J25 => ?_) ?_
      · refine sa_if_eq (tgt := 76) X.1 hp4 dX10_isBehind_48 (by decide) (fun hc => ?_) (fun hc => ?_)
        · have hw := s21 hc
          refine lv_aload_n X.1.1 X.1.2.1 dX10_isBehind_76 rfl (lv_at hl 2 rfl) ?_
          refine gt_11_21 X hR (okf X.2.2.1 rfl) kw_1550 dX10_isBehind_77 ?_
          refine lv_iload X.1.1 X.1.2.1 dX10_isBehind_80 (lv_at hl 1 rfl) ?_
          have c13 := hw.1
          have hw := hw.2
          refine ra_74 X hR (okf X.2.2.1 rfl) c13 dX10_isBehind_82 ?_
          refine lv_aload_n X.1.1 X.1.2.1 dX10_isBehind_83 rfl (lv_at hl 2 rfl) ?_
          refine gt_11_21 X hR (okf X.2.2.1 rfl) kw_1550 dX10_isBehind_84 ?_
          refine lv_iload X.1.1 X.1.2.1 dX10_isBehind_87 (lv_at hl 0 rfl) ?_
          have c14 := hw.1
          have hw := hw.2
          refine ra_74 X hR (okf X.2.2.1 rfl) c14 dX10_isBehind_89 ?_
          refine cut_j (A := ∀ v15 : Int, v15 = (if (M4 74 0 x2) ≤ (M4 74 0 x5) then (0 : Int) else 1) → WI p l e 1 s m args below meth c G e0 α κ B Qm H locs 98 ls [.int (Int32.ofInt v15)]) (fun J16 => ?_) ?_
          · refine sa_icmp_le (tgt := 97) X.1 (hR.r 74 0 x2) (hR.r 74 0 x5) dX10_isBehind_90 (by decide) (fun hc => ?_) (fun hc => ?_)
            · skip
              refine sa_const X.1 dX10_isBehind_97 ?_
              exact J16 (0) (if_pos (c := (M4 74 0 x2) ≤ (M4 74 0 x5)) hc).symm
            · skip
              refine sa_const X.1 dX10_isBehind_93 ?_
              refine lv_goto (tgt := 98) X.1.1 X.1.2.1 dX10_isBehind_94 (by decide) ?_
              exact J16 (1) (if_neg (c := (M4 74 0 x2) ≤ (M4 74 0 x5)) (Int.not_le.mpr hc)).symm
          intro v15 hv15
          subst hv15
          exact J25 ((if (M4 74 0 x2) ≤ (M4 74 0 x5) then (0 : Int) else 1)) (if_pos (c := p4 = 0) hc).symm
        · have hw := s22 hc
          refine lv_aload_n X.1.1 X.1.2.1 dX10_isBehind_51 rfl (lv_at hl 2 rfl) ?_
          refine gt_11_21 X hR (okf X.2.2.1 rfl) kw_1550 dX10_isBehind_52 ?_
          refine lv_iload X.1.1 X.1.2.1 dX10_isBehind_55 (lv_at hl 1 rfl) ?_
          have c17 := hw.1
          have hw := hw.2
          refine ra_74 X hR (okf X.2.2.1 rfl) c17 dX10_isBehind_57 ?_
          refine lv_aload_n X.1.1 X.1.2.1 dX10_isBehind_58 rfl (lv_at hl 2 rfl) ?_
          refine gt_11_21 X hR (okf X.2.2.1 rfl) kw_1550 dX10_isBehind_59 ?_
          refine lv_iload X.1.1 X.1.2.1 dX10_isBehind_62 (lv_at hl 0 rfl) ?_
          have c18 := hw.1
          have hw := hw.2
          refine ra_74 X hR (okf X.2.2.1 rfl) c18 dX10_isBehind_64 ?_
          refine cut_j (A := ∀ v19 : Int, v19 = (if (M4 74 0 x5) ≤ (M4 74 0 x2) then (0 : Int) else 1) → WI p l e 1 s m args below meth c G e0 α κ B Qm H locs 98 ls [.int (Int32.ofInt v19)]) (fun J20 => ?_) ?_
          · refine sa_icmp_ge (tgt := 72) X.1 (hR.r 74 0 x2) (hR.r 74 0 x5) dX10_isBehind_65 (by decide) (fun hc => ?_) (fun hc => ?_)
            · skip
              refine sa_const X.1 dX10_isBehind_72 ?_
              refine lv_goto (tgt := 98) X.1.1 X.1.2.1 dX10_isBehind_73 (by decide) ?_
              exact J20 (0) (if_pos (c := (M4 74 0 x5) ≤ (M4 74 0 x2)) hc).symm
            · skip
              refine sa_const X.1 dX10_isBehind_68 ?_
              refine lv_goto (tgt := 98) X.1.1 X.1.2.1 dX10_isBehind_69 (by decide) ?_
              exact J20 (1) (if_neg (c := (M4 74 0 x5) ≤ (M4 74 0 x2)) (Int.not_le.mpr hc)).symm
          intro v19 hv19
          subst hv19
          exact J25 ((if (M4 74 0 x5) ≤ (M4 74 0 x2) then (0 : Int) else 1)) (if_neg (c := p4 = 0) hc).symm
      intro v24 hv24
      subst hv24
      have c26 := hw.1
      have hw := hw.2
      exact sa_zret X.1 X.2.2.2.1 X.2.2.2.2 hR hS c26 hw dX10_isBehind_98
    · have hw := hw.2 hc
      exact t_X10_isBehind_28 X hp1 hp2 hp3 hp4 _ _ _ hw r3 r6 _ _ hR hS _ (lv_sub hl [1, 0] rfl)
theorem m_X10_isBehind {l : Launch} {G : Gx} {e0 : Nat} {α : Ax} {κ : Nat → Int} {B : Nat} {p1 : Int} {p2 : Int} {p3 : Int} {p4 : Int} (hκ : kOK κ) (hp1 : inR p1) (hp2 : inR p2) (hp3 : inR p3) (hp4 : inR p4) {M : Mem} {Qm : Int → Mem → Prop} (hw : wp_X10_isBehind p1 p2 p3 p4 M Qm) : CI l yX10_isBehind (Cond.code yX10_isBehind cX10_isBehind 7 (some .boolean)) 1 G e0 α κ B [.ref (α 11 0), .int (Int32.ofInt p1), .int (Int32.ofInt p2), .int (Int32.ofInt p3), .int (Int32.ofInt p4)] M Qm :=
  CI.mk hκ (by decide +kernel) rfl (Nat.le_of_ble_eq_true rfl) (lv := [(0, .ref (α 11 0)), (1, .int (Int32.ofInt p1)), (2, .int (Int32.ofInt p2)), (3, .int (Int32.ofInt p3)), (4, .int (Int32.ofInt p4))]) rfl (fun p e s m args below meth c ls X hR hS hl => t_X10_isBehind X hp1 hp2 hp3 hp4 hw _ _ hR hS ls hl)
theorem cs_X10_isBehind {cc : ByteArray} {nL : Nat} {own : String} {ret : Option FieldType} {idx pc : Nat} {p1 : Int} {p2 : Int} {p3 : Int} {p4 : Int} (X : CX p m c cc nL s args own G B κ meth ret) (hp1 : inR p1) (hp2 : inR p2) (hp3 : inR p3) (hp4 : inR p4) {kc : Nat} {R : Room} {cells slots : Nat} (hRr : RmOK R kc) (hcel : cells ≤ R.cells ∧ slots ≤ R.slots) (hk : 1 + 1 ≤ kc) {M : Mem} {H : Heap} {locs : List Loc} (hR : Rp G e0 α κ B M H) (hS : va_S (fun q => B ≤ q) s.heap H locs) (k1 : Cond.methodLink own idx yX10_isBehind ∈ gw) {ls : Array Slot} (hml : ls.size = nL) {rest : List Value} (hd : decode cc pc = .ok (.invokevirtual idx, 3)) (hrest : (rest.map fun v => v.category).sum ≤ 8) {Q : State → Prop} {Qm : Int → Mem → Prop} (hw : wp_X10_isBehind p1 p2 p3 p4 M Qm) (kk : ∀ (r : Int) (M1 : Mem) (H1 : Heap) (locs1 : List Loc), Qm r M1 → inR r → Rp G e0 α κ B M1 H1 → va_S (fun q => B ≤ q) s.heap H1 locs1 → W p l e R s m args below meth c H1 locs1 cells slots Q (F0 m (pc + 3) ls (.int (Int32.ofInt r) :: rest))) : W p l e R s m args below meth c H locs cells slots Q (F0 m pc ls (.int (Int32.ofInt p4) :: .int (Int32.ofInt p3) :: .int (Int32.ofInt p2) :: .int (Int32.ofInt p1) :: .ref (α 11 0) :: rest)) :=
  sa_callVI 1 (n := 4) (As := [.int (Int32.ofInt p1), .int (Int32.ofInt p2), .int (Int32.ofInt p3), .int (Int32.ofInt p4)]) (rest := rest) X.1 X.2.1 hR hS (m_X10_isBehind X.2.2.1 hp1 hp2 hp3 hp4 hw) k1 kw_1801 kw_49 kw_104 kw_1802 ⟨rfl, by decide +kernel, by decide +kernel, by decide +kernel⟩ (rm_ok hRr hk (by decide)) (rc_11 X hR (okf X.2.2.1 rfl)) rfl rfl hrest hml hd hcel kk
def wp_X10_sort_220 (p1 : Int) (p2 : Int) (Qm : Int → Mem → Prop) : Nat → Int → Int → Mem → Prop
  | 0 => fun _ _ _ => False
  | n + 1 => fun y4 y5 M => (((M 64 0 1) ≤ y5 → Qm y4 M) ∧ (y5 < (M 64 0 1) → (0 ≤ y5 ∧ y5 < 29) ∧ (inR (24 + y5)) ∧ (0 ≤ (24 + y5) ∧ (24 + y5) < 72) ∧ (inR (y4 + (if ¬ (M 85 0 y5) = (M 63 0 (24 + y5)) then (1 : Int) else 0))) ∧ (inR (y5 + 1)) ∧ wp_X10_sort_220 p1 p2 Qm n (y4 + (if ¬ (M 85 0 y5) = (M 63 0 (24 + y5)) then (1 : Int) else 0)) (y5 + 1) M))
def wp_X10_sort_196 (p1 : Int) (p2 : Int) (Qm : Int → Mem → Prop) (K113 : Int → Mem → Prop) (y4 : Int) (y5 : Int) (y6 : Int) (M : Mem) : Prop := (inR (24 + y6)) ∧ (0 ≤ (24 + y6) ∧ (24 + y6) < 72) ∧ ∀ M27 : Mem, M27 = up M 63 0 (24 + y6) y5 → (inR (y4 + 1)) ∧ K113 (y4 + 1) M27
def wp_X10_sort_140 (p1 : Int) (p2 : Int) (Qm : Int → Mem → Prop) (K113 : Int → Mem → Prop) : Nat → Int → Int → Int → Mem → Prop
  | 0 => fun _ _ _ _ => False
  | n + 1 => fun y4 y5 y6 M => ((y6 ≤ 0 → wp_X10_sort_196 p1 p2 Qm K113 y4 y5 y6 M) ∧ (0 < y6 → (inR (24 + y6)) ∧ (inR ((24 + y6) - 1)) ∧ (0 ≤ ((24 + y6) - 1) ∧ ((24 + y6) - 1) < 72) ∧ wp_X10_isBehind (M 63 0 ((24 + y6) - 1)) y5 p1 p2 M fun (x35 : Int) (M34 : Mem) => ((x35 = 0 → wp_X10_sort_196 p1 p2 Qm K113 y4 y5 y6 M34) ∧ (¬ x35 = 0 → (inR (24 + y6)) ∧ (inR (24 + y6)) ∧ (inR ((24 + y6) - 1)) ∧ (0 ≤ ((24 + y6) - 1) ∧ ((24 + y6) - 1) < 72) ∧ (0 ≤ (24 + y6) ∧ (24 + y6) < 72) ∧ ∀ M43 : Mem, M43 = up M34 63 0 (24 + y6) (M34 63 0 ((24 + y6) - 1)) → (inR (y6 + (-1))) ∧ wp_X10_sort_140 p1 p2 Qm K113 n y4 y5 (y6 + (-1)) M43))))
def wp_X10_sort_113 (p1 : Int) (p2 : Int) (Qm : Int → Mem → Prop) : Nat → Int → Mem → Prop
  | 0 => fun _ _ => False
  | n + 1 => fun y4 M => (((M 64 0 1) ≤ y4 → (∃ n21 : Nat, wp_X10_sort_220 p1 p2 Qm n21 0 0 M)) ∧ (y4 < (M 64 0 1) → (inR (24 + y4)) ∧ (0 ≤ (24 + y4) ∧ (24 + y4) < 72) ∧ (∃ n46 : Nat, wp_X10_sort_140 p1 p2 Qm (wp_X10_sort_113 p1 p2 Qm n) n46 y4 (M 63 0 (24 + y4)) y4 M)))
def wp_X10_sort_76 (p1 : Int) (p2 : Int) (Qm : Int → Mem → Prop) : Nat → Int → Mem → Prop
  | 0 => fun _ _ => False
  | n + 1 => fun y4 M => (((M 64 0 1) ≤ y4 → (∃ n47 : Nat, wp_X10_sort_113 p1 p2 Qm n47 1 M)) ∧ (y4 < (M 64 0 1) → (inR (24 + y4)) ∧ (0 ≤ (24 + y4) ∧ (24 + y4) < 72) ∧ (0 ≤ y4 ∧ y4 < 29) ∧ ∀ M52 : Mem, M52 = up M 85 0 y4 (M 63 0 (24 + y4)) → (inR (y4 + 1)) ∧ wp_X10_sort_76 p1 p2 Qm n (y4 + 1) M52))
def wp_X10_sort_5 (p1 : Int) (p2 : Int) (Qm : Int → Mem → Prop) : Nat → Int → Int → Mem → Prop
  | 0 => fun _ _ _ => False
  | n + 1 => fun y3 y4 M => (((M 11 0 15) ≤ y4 → wp_X10_isColumn p1 M fun (x3 : Int) (M2 : Mem) => wp_X10_goes x3 y3 1 M2 fun (x6 : Int) (M5 : Mem) => ((¬ x6 = 0 → (∃ n55 : Nat, wp_X10_sort_76 p1 p2 Qm n55 0 M5)) ∧ (x6 = 0 → Qm 0 M5))) ∧ (y4 < (M 11 0 15) → (¬ y3 = 0 → (0 ≤ y4 ∧ y4 < 100) ∧ (0 ≤ (M 65 0 y4) ∧ (M 65 0 y4) < 29) ∧ ((M 60 0 (M 65 0 y4)) = 1 → (0 ≤ y4 ∧ y4 < 100) ∧ True) ∧ True) ∧ (inR (y4 + 1)) ∧ wp_X10_sort_5 p1 p2 Qm n (if y3 = 0 then (0 : Int) else (if ¬ (M 60 0 (M 65 0 y4)) = 1 then (1 : Int) else (if 1 < (M 67 0 y4) then (0 : Int) else 1))) (y4 + 1) M))
def wp_X10_sort (p1 : Int) (p2 : Int) (M : Mem) (Qm : Int → Mem → Prop) : Prop := (∃ n69 : Nat, wp_X10_sort_5 p1 p2 Qm n69 1 0 M)
set_option maxHeartbeats 4000000 in
set_option maxRecDepth 100000 in
theorem t_X10_sort_220 {p1 : Int} {p2 : Int} (X : CX p m c cX10_sort 7 s args RX10 G B κ meth (some .int)) (hp1 : inR p1) (hp2 : inR p2) {Qm : Int → Mem → Prop} : ∀ n : Nat, ∀ y4 : Int, ∀ y5 : Int, ∀ M : Mem, wp_X10_sort_220 p1 p2 Qm n y4 y5 M → inR y4 → inR y5 → ∀ (H : Heap) (locs : List Loc), Rp G e0 α κ B M H → va_S (fun q => B ≤ q) s.heap H locs → ∀ (ls : Array Slot), lv_has ls 7 [(0, .ref (α 11 0)), (4, .int (Int32.ofInt y4)), (5, .int (Int32.ofInt y5))] → WI p l e 2 s m args below meth c G e0 α κ B Qm H locs 220 ls [] := by
  intro n
  induction n with
  | zero =>
    intro y4 y5 M hw hy4 hy5 H locs hR hS ls hl
    exact hw.elim
  | succ n ih =>
    intro y4 y5 M hw hy4 hy5 H locs hR hS ls hl
    have hw : (((M 64 0 1) ≤ y5 → Qm y4 M) ∧ (y5 < (M 64 0 1) → (0 ≤ y5 ∧ y5 < 29) ∧ (inR (24 + y5)) ∧ (0 ≤ (24 + y5) ∧ (24 + y5) < 72) ∧ (inR (y4 + (if ¬ (M 85 0 y5) = (M 63 0 (24 + y5)) then (1 : Int) else 0))) ∧ (inR (y5 + 1)) ∧ wp_X10_sort_220 p1 p2 Qm n (y4 + (if ¬ (M 85 0 y5) = (M 63 0 (24 + y5)) then (1 : Int) else 0)) (y5 + 1) M)) := hw
    refine lv_iload X.1.1 X.1.2.1 dX10_sort_220 (lv_at hl 2 rfl) ?_
    refine lv_aload_n X.1.1 X.1.2.1 dX10_sort_222 rfl (lv_at hl 0 rfl) ?_
    refine gt_11_10 X hR (okf X.2.2.1 rfl) kw_1539 dX10_sort_223 ?_
    refine sa_const X.1 dX10_sort_226 ?_
    refine ra_64 X hR (okf X.2.2.1 rfl) ⟨by decide, by decide⟩ dX10_sort_227 ?_
    have r10 := hR.r 64 0 1
    refine sa_icmp_ge (tgt := 267) X.1 hy5 r10 dX10_sort_228 (by decide) (fun hc => ?_) (fun hc => ?_)
    · have hw := hw.1 hc
      refine lv_iload X.1.1 X.1.2.1 dX10_sort_267 (lv_at hl 1 rfl) ?_
      exact sa_iret X.1 X.2.2.2.1 X.2.2.2.2 hR hS hy4 hw dX10_sort_269
    · have hw := hw.2 hc
      refine lv_iload X.1.1 X.1.2.1 dX10_sort_231 (lv_at hl 1 rfl) ?_
      refine lv_aload_n X.1.1 X.1.2.1 dX10_sort_233 rfl (lv_at hl 0 rfl) ?_
      refine gt_11_36 X hR (okf X.2.2.1 rfl) kw_1565 dX10_sort_234 ?_
      refine lv_iload X.1.1 X.1.2.1 dX10_sort_237 (lv_at hl 2 rfl) ?_
      have c11 := hw.1
      have hw := hw.2
      refine ra_85 X hR (okf X.2.2.1 rfl) c11 dX10_sort_239 ?_
      have r12 := hR.r 85 0 y5
      refine lv_aload_n X.1.1 X.1.2.1 dX10_sort_240 rfl (lv_at hl 0 rfl) ?_
      refine gt_11_9 X hR (okf X.2.2.1 rfl) kw_1538 dX10_sort_241 ?_
      refine sa_bipush X.1 dX10_sort_244 (by decide) ?_
      refine lv_iload X.1.1 X.1.2.1 dX10_sort_246 (lv_at hl 2 rfl) ?_
      have c13 := hw.1
      have hw := hw.2
      refine sa_iadd X.1 dX10_sort_248 ?_
      have c14 := hw.1
      have hw := hw.2
      refine ra_63 X hR (okf X.2.2.1 rfl) c14 dX10_sort_249 ?_
      have r15 := hR.r 63 0 (24 + y5)
      have r16 := inR_ite (c := ¬ (M 85 0 y5) = (M 63 0 (24 + y5))) (inR_c (a := 1) rfl) (inR_c (a := 0) rfl)
      refine cut_j (A := ∀ v17 : Int, v17 = (if ¬ (M 85 0 y5) = (M 63 0 (24 + y5)) then (1 : Int) else 0) → WI p l e 2 s m args below meth c G e0 α κ B Qm H locs 258 ls [.int (Int32.ofInt v17), .int (Int32.ofInt y4)]) (fun J18 => ?_) ?_
      · refine sa_icmp_ne (tgt := 257) X.1 r12 r15 dX10_sort_250 (by decide) (fun hc => ?_) (fun hc => ?_)
        · skip
          refine sa_const X.1 dX10_sort_257 ?_
          exact J18 (1) (if_pos (c := ¬ (M 85 0 y5) = (M 63 0 (24 + y5))) hc).symm
        · skip
          refine sa_const X.1 dX10_sort_253 ?_
          refine lv_goto (tgt := 258) X.1.1 X.1.2.1 dX10_sort_254 (by decide) ?_
          exact J18 (0) (if_neg (c := ¬ (M 85 0 y5) = (M 63 0 (24 + y5))) (fun z => z hc)).symm
      intro v17 hv17
      subst hv17
      have c19 := hw.1
      have hw := hw.2
      refine sa_iadd X.1 dX10_sort_258 ?_
      refine lv_istore (lv' := [(4, .int (Int32.ofInt (y4 + (if ¬ (M 85 0 y5) = (M 63 0 (24 + y5)) then (1 : Int) else 0)))), (0, .ref (α 11 0)), (5, .int (Int32.ofInt y5))]) X.1.1 X.1.2.1 dX10_sort_259 hl (by decide) rfl (fun ls hl => ?_)
      have c20 := hw.1
      have hw := hw.2
      refine lv_iinc (v := Int32.ofInt (y5 + 1)) (lv' := [(5, .int (Int32.ofInt (y5 + 1))), (4, .int (Int32.ofInt (y4 + (if ¬ (M 85 0 y5) = (M 63 0 (24 + y5)) then (1 : Int) else 0)))), (0, .ref (α 11 0))]) X.1.1 X.1.2.1 dX10_sort_261 hl (k := 2) rfl (Int32.ofInt_add _ _).symm (by decide) rfl (fun ls hl => ?_)
      refine lv_goto (tgt := 220) X.1.1 X.1.2.1 dX10_sort_264 (by decide) ?_
      exact ih _ _ _ hw c19 c20 _ _ hR hS _ (lv_sub hl [2, 1, 0] rfl)
set_option maxHeartbeats 4000000 in
set_option maxRecDepth 100000 in
theorem t_X10_sort_196 {p1 : Int} {p2 : Int} (X : CX p m c cX10_sort 7 s args RX10 G B κ meth (some .int)) (hp1 : inR p1) (hp2 : inR p2) {Qm : Int → Mem → Prop} {K113 : Int → Mem → Prop} (hK113 : ∀ y4 : Int, ∀ M : Mem, K113 y4 M → inR y4 → ∀ (H : Heap) (locs : List Loc), Rp G e0 α κ B M H → va_S (fun q => B ≤ q) s.heap H locs → ∀ (ls : Array Slot), lv_has ls 7 [(0, .ref (α 11 0)), (1, .int (Int32.ofInt p1)), (2, .int (Int32.ofInt p2)), (4, .int (Int32.ofInt y4))] → WI p l e 2 s m args below meth c G e0 α κ B Qm H locs 113 ls []) : ∀ y4 : Int, ∀ y5 : Int, ∀ y6 : Int, ∀ M : Mem, wp_X10_sort_196 p1 p2 Qm K113 y4 y5 y6 M → inR y4 → inR y5 → inR y6 → ∀ (H : Heap) (locs : List Loc), Rp G e0 α κ B M H → va_S (fun q => B ≤ q) s.heap H locs → ∀ (ls : Array Slot), lv_has ls 7 [(0, .ref (α 11 0)), (1, .int (Int32.ofInt p1)), (2, .int (Int32.ofInt p2)), (4, .int (Int32.ofInt y4)), (5, .int (Int32.ofInt y5)), (6, .int (Int32.ofInt y6))] → WI p l e 2 s m args below meth c G e0 α κ B Qm H locs 196 ls [] := by
  intro y4 y5 y6 M hw hy4 hy5 hy6 H locs hR hS ls hl
  have hw : (inR (24 + y6)) ∧ (0 ≤ (24 + y6) ∧ (24 + y6) < 72) ∧ ∀ M27 : Mem, M27 = up M 63 0 (24 + y6) y5 → (inR (y4 + 1)) ∧ K113 (y4 + 1) M27 := hw
  refine lv_aload_n X.1.1 X.1.2.1 dX10_sort_196 rfl (lv_at hl 0 rfl) ?_
  refine gt_11_9 X hR (okf X.2.2.1 rfl) kw_1538 dX10_sort_197 ?_
  refine sa_bipush X.1 dX10_sort_200 (by decide) ?_
  refine lv_iload X.1.1 X.1.2.1 dX10_sort_202 (lv_at hl 5 rfl) ?_
  have c25 := hw.1
  have hw := hw.2
  refine sa_iadd X.1 dX10_sort_204 ?_
  refine lv_iload X.1.1 X.1.2.1 dX10_sort_205 (lv_at hl 4 rfl) ?_
  have c26 := hw.1
  have hw := hw.2
  refine wa_63 X hR hS (okf X.2.2.1 rfl) c26 hy5 dX10_sort_207 (fun H locs hR hS => ?_)
  obtain ⟨M27, e28⟩ : ∃ z : Mem, z = up M 63 0 (24 + y6) y5 := ⟨_, rfl⟩
  rw [← e28] at hR
  have hw := hw M27 e28
  have c29 := hw.1
  have hw := hw.2
  refine lv_iinc (v := Int32.ofInt (y4 + 1)) (lv' := [(4, .int (Int32.ofInt (y4 + 1))), (0, .ref (α 11 0)), (1, .int (Int32.ofInt p1)), (2, .int (Int32.ofInt p2)), (5, .int (Int32.ofInt y5)), (6, .int (Int32.ofInt y6))]) X.1.1 X.1.2.1 dX10_sort_208 hl (k := 3) rfl (Int32.ofInt_add _ _).symm (by decide) rfl (fun ls hl => ?_)
  refine lv_goto (tgt := 113) X.1.1 X.1.2.1 dX10_sort_211 (by decide) ?_
  exact hK113 _ _ hw c29 _ _ hR hS _ (lv_sub hl [1, 2, 3, 0] rfl)
set_option maxHeartbeats 4000000 in
set_option maxRecDepth 100000 in
theorem t_X10_sort_140 {p1 : Int} {p2 : Int} (X : CX p m c cX10_sort 7 s args RX10 G B κ meth (some .int)) (hp1 : inR p1) (hp2 : inR p2) {Qm : Int → Mem → Prop} {K113 : Int → Mem → Prop} (hK113 : ∀ y4 : Int, ∀ M : Mem, K113 y4 M → inR y4 → ∀ (H : Heap) (locs : List Loc), Rp G e0 α κ B M H → va_S (fun q => B ≤ q) s.heap H locs → ∀ (ls : Array Slot), lv_has ls 7 [(0, .ref (α 11 0)), (1, .int (Int32.ofInt p1)), (2, .int (Int32.ofInt p2)), (4, .int (Int32.ofInt y4))] → WI p l e 2 s m args below meth c G e0 α κ B Qm H locs 113 ls []) : ∀ n : Nat, ∀ y4 : Int, ∀ y5 : Int, ∀ y6 : Int, ∀ M : Mem, wp_X10_sort_140 p1 p2 Qm K113 n y4 y5 y6 M → inR y4 → inR y5 → inR y6 → ∀ (H : Heap) (locs : List Loc), Rp G e0 α κ B M H → va_S (fun q => B ≤ q) s.heap H locs → ∀ (ls : Array Slot), lv_has ls 7 [(0, .ref (α 11 0)), (1, .int (Int32.ofInt p1)), (2, .int (Int32.ofInt p2)), (4, .int (Int32.ofInt y4)), (5, .int (Int32.ofInt y5)), (6, .int (Int32.ofInt y6))] → WI p l e 2 s m args below meth c G e0 α κ B Qm H locs 140 ls [] := by
  intro n
  induction n with
  | zero =>
    intro y4 y5 y6 M hw hy4 hy5 hy6 H locs hR hS ls hl
    exact hw.elim
  | succ n ih =>
    intro y4 y5 y6 M hw hy4 hy5 hy6 H locs hR hS ls hl
    have hw : ((y6 ≤ 0 → wp_X10_sort_196 p1 p2 Qm K113 y4 y5 y6 M) ∧ (0 < y6 → (inR (24 + y6)) ∧ (inR ((24 + y6) - 1)) ∧ (0 ≤ ((24 + y6) - 1) ∧ ((24 + y6) - 1) < 72) ∧ wp_X10_isBehind (M 63 0 ((24 + y6) - 1)) y5 p1 p2 M fun (x35 : Int) (M34 : Mem) => ((x35 = 0 → wp_X10_sort_196 p1 p2 Qm K113 y4 y5 y6 M34) ∧ (¬ x35 = 0 → (inR (24 + y6)) ∧ (inR (24 + y6)) ∧ (inR ((24 + y6) - 1)) ∧ (0 ≤ ((24 + y6) - 1) ∧ ((24 + y6) - 1) < 72) ∧ (0 ≤ (24 + y6) ∧ (24 + y6) < 72) ∧ ∀ M43 : Mem, M43 = up M34 63 0 (24 + y6) (M34 63 0 ((24 + y6) - 1)) → (inR (y6 + (-1))) ∧ wp_X10_sort_140 p1 p2 Qm K113 n y4 y5 (y6 + (-1)) M43)))) := hw
    refine lv_iload X.1.1 X.1.2.1 dX10_sort_140 (lv_at hl 5 rfl) ?_
    refine sa_if_le (tgt := 196) X.1 hy6 dX10_sort_142 (by decide) (fun hc => ?_) (fun hc => ?_)
    · have hw := hw.1 hc
      exact t_X10_sort_196 X hp1 hp2 hK113 _ _ _ _ hw hy4 hy5 hy6 _ _ hR hS _ (lv_sub hl [0, 1, 2, 3, 4, 5] rfl)
    · have hw := hw.2 hc
      refine lv_aload_n X.1.1 X.1.2.1 dX10_sort_145 rfl (lv_at hl 0 rfl) ?_
      refine lv_aload_n X.1.1 X.1.2.1 dX10_sort_146 rfl (lv_at hl 0 rfl) ?_
      refine gt_11_9 X hR (okf X.2.2.1 rfl) kw_1538 dX10_sort_147 ?_
      refine sa_bipush X.1 dX10_sort_150 (by decide) ?_
      refine lv_iload X.1.1 X.1.2.1 dX10_sort_152 (lv_at hl 5 rfl) ?_
      have c30 := hw.1
      have hw := hw.2
      refine sa_iadd X.1 dX10_sort_154 ?_
      refine sa_const X.1 dX10_sort_155 ?_
      have c31 := hw.1
      have hw := hw.2
      refine sa_isub X.1 dX10_sort_156 ?_
      have c32 := hw.1
      have hw := hw.2
      refine ra_63 X hR (okf X.2.2.1 rfl) c32 dX10_sort_157 ?_
      have r33 := hR.r 63 0 ((24 + y6) - 1)
      refine lv_iload X.1.1 X.1.2.1 dX10_sort_158 (lv_at hl 4 rfl) ?_
      refine lv_iload_n X.1.1 X.1.2.1 dX10_sort_160 rfl (lv_at hl 1 rfl) ?_
      refine lv_iload_n X.1.1 X.1.2.1 dX10_sort_161 rfl (lv_at hl 2 rfl) ?_
      refine cs_X10_isBehind X r33 hy5 hp1 hp2 (kc := 2) rmL_ok rm_c (by decide) hR hS kw_1799 hl.1 dX10_sort_162 (Nat.le_of_ble_eq_true rfl) hw (fun x35 M34 H locs hw r36 hR hS => ?_)
      refine sa_if_eq (tgt := 196) X.1 r36 dX10_sort_165 (by decide) (fun hc => ?_) (fun hc => ?_)
      · have hw := hw.1 hc
        exact t_X10_sort_196 X hp1 hp2 hK113 _ _ _ _ hw hy4 hy5 hy6 _ _ hR hS _ (lv_sub hl [0, 1, 2, 3, 4, 5] rfl)
      · have hw := hw.2 hc
        refine lv_aload_n X.1.1 X.1.2.1 dX10_sort_168 rfl (lv_at hl 0 rfl) ?_
        refine gt_11_9 X hR (okf X.2.2.1 rfl) kw_1538 dX10_sort_169 ?_
        refine sa_bipush X.1 dX10_sort_172 (by decide) ?_
        refine lv_iload X.1.1 X.1.2.1 dX10_sort_174 (lv_at hl 5 rfl) ?_
        have c37 := hw.1
        have hw := hw.2
        refine sa_iadd X.1 dX10_sort_176 ?_
        refine lv_aload_n X.1.1 X.1.2.1 dX10_sort_177 rfl (lv_at hl 0 rfl) ?_
        refine gt_11_9 X hR (okf X.2.2.1 rfl) kw_1538 dX10_sort_178 ?_
        refine sa_bipush X.1 dX10_sort_181 (by decide) ?_
        refine lv_iload X.1.1 X.1.2.1 dX10_sort_183 (lv_at hl 5 rfl) ?_
        have c38 := hw.1
        have hw := hw.2
        refine sa_iadd X.1 dX10_sort_185 ?_
        refine sa_const X.1 dX10_sort_186 ?_
        have c39 := hw.1
        have hw := hw.2
        refine sa_isub X.1 dX10_sort_187 ?_
        have c40 := hw.1
        have hw := hw.2
        refine ra_63 X hR (okf X.2.2.1 rfl) c40 dX10_sort_188 ?_
        have r41 := hR.r 63 0 ((24 + y6) - 1)
        have c42 := hw.1
        have hw := hw.2
        refine wa_63 X hR hS (okf X.2.2.1 rfl) c42 r41 dX10_sort_189 (fun H locs hR hS => ?_)
        obtain ⟨M43, e44⟩ : ∃ z : Mem, z = up M34 63 0 (24 + y6) (M34 63 0 ((24 + y6) - 1)) := ⟨_, rfl⟩
        rw [← e44] at hR
        have hw := hw M43 e44
        have c45 := hw.1
        have hw := hw.2
        refine lv_iinc (v := Int32.ofInt (y6 + (-1))) (lv' := [(6, .int (Int32.ofInt (y6 + (-1)))), (0, .ref (α 11 0)), (1, .int (Int32.ofInt p1)), (2, .int (Int32.ofInt p2)), (4, .int (Int32.ofInt y4)), (5, .int (Int32.ofInt y5))]) X.1.1 X.1.2.1 dX10_sort_190 hl (k := 5) rfl (Int32.ofInt_add _ _).symm (by decide) rfl (fun ls hl => ?_)
        refine lv_goto (tgt := 140) X.1.1 X.1.2.1 dX10_sort_193 (by decide) ?_
        exact ih _ _ _ _ hw hy4 hy5 c45 _ _ hR hS _ (lv_sub hl [1, 2, 3, 4, 5, 0] rfl)
set_option maxHeartbeats 4000000 in
set_option maxRecDepth 100000 in
theorem t_X10_sort_113 {p1 : Int} {p2 : Int} (X : CX p m c cX10_sort 7 s args RX10 G B κ meth (some .int)) (hp1 : inR p1) (hp2 : inR p2) {Qm : Int → Mem → Prop} : ∀ n : Nat, ∀ y4 : Int, ∀ M : Mem, wp_X10_sort_113 p1 p2 Qm n y4 M → inR y4 → ∀ (H : Heap) (locs : List Loc), Rp G e0 α κ B M H → va_S (fun q => B ≤ q) s.heap H locs → ∀ (ls : Array Slot), lv_has ls 7 [(0, .ref (α 11 0)), (1, .int (Int32.ofInt p1)), (2, .int (Int32.ofInt p2)), (4, .int (Int32.ofInt y4))] → WI p l e 2 s m args below meth c G e0 α κ B Qm H locs 113 ls [] := by
  intro n
  induction n with
  | zero =>
    intro y4 M hw hy4 H locs hR hS ls hl
    exact hw.elim
  | succ n ih =>
    intro y4 M hw hy4 H locs hR hS ls hl
    have hw : (((M 64 0 1) ≤ y4 → (∃ n21 : Nat, wp_X10_sort_220 p1 p2 Qm n21 0 0 M)) ∧ (y4 < (M 64 0 1) → (inR (24 + y4)) ∧ (0 ≤ (24 + y4) ∧ (24 + y4) < 72) ∧ (∃ n46 : Nat, wp_X10_sort_140 p1 p2 Qm (wp_X10_sort_113 p1 p2 Qm n) n46 y4 (M 63 0 (24 + y4)) y4 M))) := hw
    refine lv_iload X.1.1 X.1.2.1 dX10_sort_113 (lv_at hl 3 rfl) ?_
    refine lv_aload_n X.1.1 X.1.2.1 dX10_sort_115 rfl (lv_at hl 0 rfl) ?_
    refine gt_11_10 X hR (okf X.2.2.1 rfl) kw_1539 dX10_sort_116 ?_
    refine sa_const X.1 dX10_sort_119 ?_
    refine ra_64 X hR (okf X.2.2.1 rfl) ⟨by decide, by decide⟩ dX10_sort_120 ?_
    have r9 := hR.r 64 0 1
    refine sa_icmp_ge (tgt := 214) X.1 hy4 r9 dX10_sort_121 (by decide) (fun hc => ?_) (fun hc => ?_)
    · have hw := hw.1 hc
      refine sa_const X.1 dX10_sort_214 ?_
      refine lv_istore (lv' := [(4, .int (Int32.ofInt 0)), (0, .ref (α 11 0)), (1, .int (Int32.ofInt p1)), (2, .int (Int32.ofInt p2))]) X.1.1 X.1.2.1 dX10_sort_215 hl (by decide) rfl (fun ls hl => ?_)
      refine sa_const X.1 dX10_sort_217 ?_
      refine lv_istore (lv' := [(5, .int (Int32.ofInt 0)), (4, .int (Int32.ofInt 0)), (0, .ref (α 11 0)), (1, .int (Int32.ofInt p1)), (2, .int (Int32.ofInt p2))]) X.1.1 X.1.2.1 dX10_sort_218 hl (by decide) rfl (fun ls hl => ?_)
      obtain ⟨n21, hw⟩ := hw
      exact t_X10_sort_220 X hp1 hp2 n21 _ _ _ hw (inR_c (a := 0) rfl) (inR_c (a := 0) rfl) _ _ hR hS _ (lv_sub hl [2, 1, 0] rfl)
    · have hw := hw.2 hc
      refine lv_aload_n X.1.1 X.1.2.1 dX10_sort_124 rfl (lv_at hl 0 rfl) ?_
      refine gt_11_9 X hR (okf X.2.2.1 rfl) kw_1538 dX10_sort_125 ?_
      refine sa_bipush X.1 dX10_sort_128 (by decide) ?_
      refine lv_iload X.1.1 X.1.2.1 dX10_sort_130 (lv_at hl 3 rfl) ?_
      have c22 := hw.1
      have hw := hw.2
      refine sa_iadd X.1 dX10_sort_132 ?_
      have c23 := hw.1
      have hw := hw.2
      refine ra_63 X hR (okf X.2.2.1 rfl) c23 dX10_sort_133 ?_
      have r24 := hR.r 63 0 (24 + y4)
      refine lv_istore (lv' := [(5, .int (Int32.ofInt (M 63 0 (24 + y4)))), (0, .ref (α 11 0)), (1, .int (Int32.ofInt p1)), (2, .int (Int32.ofInt p2)), (4, .int (Int32.ofInt y4))]) X.1.1 X.1.2.1 dX10_sort_134 hl (by decide) rfl (fun ls hl => ?_)
      refine lv_iload X.1.1 X.1.2.1 dX10_sort_136 (lv_at hl 4 rfl) ?_
      refine lv_istore (lv' := [(6, .int (Int32.ofInt y4)), (5, .int (Int32.ofInt (M 63 0 (24 + y4)))), (0, .ref (α 11 0)), (1, .int (Int32.ofInt p1)), (2, .int (Int32.ofInt p2)), (4, .int (Int32.ofInt y4))]) X.1.1 X.1.2.1 dX10_sort_138 hl (by decide) rfl (fun ls hl => ?_)
      obtain ⟨n46, hw⟩ := hw
      exact t_X10_sort_140 X hp1 hp2 ih n46 _ _ _ _ hw hy4 r24 hy4 _ _ hR hS _ (lv_sub hl [2, 3, 4, 5, 1, 0] rfl)
set_option maxHeartbeats 4000000 in
set_option maxRecDepth 100000 in
theorem t_X10_sort_76 {p1 : Int} {p2 : Int} (X : CX p m c cX10_sort 7 s args RX10 G B κ meth (some .int)) (hp1 : inR p1) (hp2 : inR p2) {Qm : Int → Mem → Prop} : ∀ n : Nat, ∀ y4 : Int, ∀ M : Mem, wp_X10_sort_76 p1 p2 Qm n y4 M → inR y4 → ∀ (H : Heap) (locs : List Loc), Rp G e0 α κ B M H → va_S (fun q => B ≤ q) s.heap H locs → ∀ (ls : Array Slot), lv_has ls 7 [(0, .ref (α 11 0)), (1, .int (Int32.ofInt p1)), (2, .int (Int32.ofInt p2)), (4, .int (Int32.ofInt y4))] → WI p l e 2 s m args below meth c G e0 α κ B Qm H locs 76 ls [] := by
  intro n
  induction n with
  | zero =>
    intro y4 M hw hy4 H locs hR hS ls hl
    exact hw.elim
  | succ n ih =>
    intro y4 M hw hy4 H locs hR hS ls hl
    have hw : (((M 64 0 1) ≤ y4 → (∃ n47 : Nat, wp_X10_sort_113 p1 p2 Qm n47 1 M)) ∧ (y4 < (M 64 0 1) → (inR (24 + y4)) ∧ (0 ≤ (24 + y4) ∧ (24 + y4) < 72) ∧ (0 ≤ y4 ∧ y4 < 29) ∧ ∀ M52 : Mem, M52 = up M 85 0 y4 (M 63 0 (24 + y4)) → (inR (y4 + 1)) ∧ wp_X10_sort_76 p1 p2 Qm n (y4 + 1) M52)) := hw
    refine lv_iload X.1.1 X.1.2.1 dX10_sort_76 (lv_at hl 3 rfl) ?_
    refine lv_aload_n X.1.1 X.1.2.1 dX10_sort_78 rfl (lv_at hl 0 rfl) ?_
    refine gt_11_10 X hR (okf X.2.2.1 rfl) kw_1539 dX10_sort_79 ?_
    refine sa_const X.1 dX10_sort_82 ?_
    refine ra_64 X hR (okf X.2.2.1 rfl) ⟨by decide, by decide⟩ dX10_sort_83 ?_
    have r8 := hR.r 64 0 1
    refine sa_icmp_ge (tgt := 110) X.1 hy4 r8 dX10_sort_84 (by decide) (fun hc => ?_) (fun hc => ?_)
    · have hw := hw.1 hc
      refine sa_const X.1 dX10_sort_110 ?_
      refine lv_istore (lv' := [(4, .int (Int32.ofInt 1)), (0, .ref (α 11 0)), (1, .int (Int32.ofInt p1)), (2, .int (Int32.ofInt p2))]) X.1.1 X.1.2.1 dX10_sort_111 hl (by decide) rfl (fun ls hl => ?_)
      obtain ⟨n47, hw⟩ := hw
      exact t_X10_sort_113 X hp1 hp2 n47 _ _ hw (inR_c (a := 1) rfl) _ _ hR hS _ (lv_sub hl [1, 2, 3, 0] rfl)
    · have hw := hw.2 hc
      refine lv_aload_n X.1.1 X.1.2.1 dX10_sort_87 rfl (lv_at hl 0 rfl) ?_
      refine gt_11_36 X hR (okf X.2.2.1 rfl) kw_1565 dX10_sort_88 ?_
      refine lv_iload X.1.1 X.1.2.1 dX10_sort_91 (lv_at hl 3 rfl) ?_
      refine lv_aload_n X.1.1 X.1.2.1 dX10_sort_93 rfl (lv_at hl 0 rfl) ?_
      refine gt_11_9 X hR (okf X.2.2.1 rfl) kw_1538 dX10_sort_94 ?_
      refine sa_bipush X.1 dX10_sort_97 (by decide) ?_
      refine lv_iload X.1.1 X.1.2.1 dX10_sort_99 (lv_at hl 3 rfl) ?_
      have c48 := hw.1
      have hw := hw.2
      refine sa_iadd X.1 dX10_sort_101 ?_
      have c49 := hw.1
      have hw := hw.2
      refine ra_63 X hR (okf X.2.2.1 rfl) c49 dX10_sort_102 ?_
      have r50 := hR.r 63 0 (24 + y4)
      have c51 := hw.1
      have hw := hw.2
      refine wa_85 X hR hS (okf X.2.2.1 rfl) c51 r50 dX10_sort_103 (fun H locs hR hS => ?_)
      obtain ⟨M52, e53⟩ : ∃ z : Mem, z = up M 85 0 y4 (M 63 0 (24 + y4)) := ⟨_, rfl⟩
      rw [← e53] at hR
      have hw := hw M52 e53
      have c54 := hw.1
      have hw := hw.2
      refine lv_iinc (v := Int32.ofInt (y4 + 1)) (lv' := [(4, .int (Int32.ofInt (y4 + 1))), (0, .ref (α 11 0)), (1, .int (Int32.ofInt p1)), (2, .int (Int32.ofInt p2))]) X.1.1 X.1.2.1 dX10_sort_104 hl (k := 3) rfl (Int32.ofInt_add _ _).symm (by decide) rfl (fun ls hl => ?_)
      refine lv_goto (tgt := 76) X.1.1 X.1.2.1 dX10_sort_107 (by decide) ?_
      exact ih _ _ hw c54 _ _ hR hS _ (lv_sub hl [1, 2, 3, 0] rfl)
set_option maxHeartbeats 4000000 in
set_option maxRecDepth 100000 in
theorem t_X10_sort_5 {p1 : Int} {p2 : Int} (X : CX p m c cX10_sort 7 s args RX10 G B κ meth (some .int)) (hp1 : inR p1) (hp2 : inR p2) {Qm : Int → Mem → Prop} : ∀ n : Nat, ∀ y3 : Int, ∀ y4 : Int, ∀ M : Mem, wp_X10_sort_5 p1 p2 Qm n y3 y4 M → inR y3 → inR y4 → ∀ (H : Heap) (locs : List Loc), Rp G e0 α κ B M H → va_S (fun q => B ≤ q) s.heap H locs → ∀ (ls : Array Slot), lv_has ls 7 [(0, .ref (α 11 0)), (1, .int (Int32.ofInt p1)), (2, .int (Int32.ofInt p2)), (3, .int (Int32.ofInt y3)), (4, .int (Int32.ofInt y4))] → WI p l e 2 s m args below meth c G e0 α κ B Qm H locs 5 ls [] := by
  intro n
  induction n with
  | zero =>
    intro y3 y4 M hw hy3 hy4 H locs hR hS ls hl
    exact hw.elim
  | succ n ih =>
    intro y3 y4 M hw hy3 hy4 H locs hR hS ls hl
    have hw : (((M 11 0 15) ≤ y4 → wp_X10_isColumn p1 M fun (x3 : Int) (M2 : Mem) => wp_X10_goes x3 y3 1 M2 fun (x6 : Int) (M5 : Mem) => ((¬ x6 = 0 → (∃ n55 : Nat, wp_X10_sort_76 p1 p2 Qm n55 0 M5)) ∧ (x6 = 0 → Qm 0 M5))) ∧ (y4 < (M 11 0 15) → (¬ y3 = 0 → (0 ≤ y4 ∧ y4 < 100) ∧ (0 ≤ (M 65 0 y4) ∧ (M 65 0 y4) < 29) ∧ ((M 60 0 (M 65 0 y4)) = 1 → (0 ≤ y4 ∧ y4 < 100) ∧ True) ∧ True) ∧ (inR (y4 + 1)) ∧ wp_X10_sort_5 p1 p2 Qm n (if y3 = 0 then (0 : Int) else (if ¬ (M 60 0 (M 65 0 y4)) = 1 then (1 : Int) else (if 1 < (M 67 0 y4) then (0 : Int) else 1))) (y4 + 1) M)) := hw
    refine lv_iload X.1.1 X.1.2.1 dX10_sort_5 (lv_at hl 4 rfl) ?_
    refine lv_aload_n X.1.1 X.1.2.1 dX10_sort_7 rfl (lv_at hl 0 rfl) ?_
    refine gt_11_15 X hR (okf X.2.2.1 rfl) kw_1544 dX10_sort_8 ?_
    have r1 := hR.r 11 0 15
    refine sa_icmp_ge (tgt := 57) X.1 hy4 r1 dX10_sort_11 (by decide) (fun hc => ?_) (fun hc => ?_)
    · have hw := hw.1 hc
      refine lv_aload_n X.1.1 X.1.2.1 dX10_sort_57 rfl (lv_at hl 0 rfl) ?_
      refine lv_aload_n X.1.1 X.1.2.1 dX10_sort_58 rfl (lv_at hl 0 rfl) ?_
      refine lv_iload_n X.1.1 X.1.2.1 dX10_sort_59 rfl (lv_at hl 1 rfl) ?_
      refine cs_X10_isColumn X hp1 (kc := 2) rmL_ok rm_c (by decide) hR hS kw_1737 hl.1 dX10_sort_60 (Nat.le_of_ble_eq_true rfl) hw (fun x3 M2 H locs hw r4 hR hS => ?_)
      refine lv_iload_n X.1.1 X.1.2.1 dX10_sort_63 rfl (lv_at hl 3 rfl) ?_
      refine sa_const X.1 dX10_sort_64 ?_
      refine cs_X10_goes X r4 hy3 (inR_c (a := 1) rfl) (kc := 2) rmL_ok rm_c (by decide) hR hS kw_1721 hl.1 dX10_sort_65 (Nat.le_of_ble_eq_true rfl) hw (fun x6 M5 H locs hw r7 hR hS => ?_)
      refine sa_if_ne (tgt := 73) X.1 r7 dX10_sort_68 (by decide) (fun hc => ?_) (fun hc => ?_)
      · have hw := hw.1 hc
        refine sa_const X.1 dX10_sort_73 ?_
        refine lv_istore (lv' := [(4, .int (Int32.ofInt 0)), (0, .ref (α 11 0)), (1, .int (Int32.ofInt p1)), (2, .int (Int32.ofInt p2)), (3, .int (Int32.ofInt y3))]) X.1.1 X.1.2.1 dX10_sort_74 hl (by decide) rfl (fun ls hl => ?_)
        obtain ⟨n55, hw⟩ := hw
        exact t_X10_sort_76 X hp1 hp2 n55 _ _ hw (inR_c (a := 0) rfl) _ _ hR hS _ (lv_sub hl [1, 2, 3, 0] rfl)
      · have hw := hw.2 hc
        refine sa_const X.1 dX10_sort_71 ?_
        exact sa_iret X.1 X.2.2.2.1 X.2.2.2.2 hR hS (inR_c (a := 0) rfl) hw dX10_sort_72
    · have hw := hw.2 hc
      refine lv_iload_n X.1.1 X.1.2.1 dX10_sort_14 rfl (lv_at hl 3 rfl) ?_
      have s64 := hw.1
      have hw := hw.2
      have r65 := inR_ite (c := y3 = 0) (inR_c (a := 0) rfl) (inR_ite (c := ¬ (M 60 0 (M 65 0 y4)) = 1) (inR_c (a := 1) rfl) (inR_ite (c := 1 < (M 67 0 y4)) (inR_c (a := 0) rfl) (inR_c (a := 1) rfl)))
      refine cut_j (A := ∀ v66 : Int, v66 = (if y3 = 0 then (0 : Int) else (if ¬ (M 60 0 (M 65 0 y4)) = 1 then (1 : Int) else (if 1 < (M 67 0 y4) then (0 : Int) else 1))) → WI p l e 2 s m args below meth c G e0 α κ B Qm H locs 50 ls [.int (Int32.ofInt v66)]) (fun J67 => ?_) ?_
      · refine sa_if_eq (tgt := 49) X.1 hy3 dX10_sort_15 (by decide) (fun hc => ?_) (fun hc => ?_)
        · skip
          refine sa_const X.1 dX10_sort_49 ?_
          exact J67 (0) (if_pos (c := y3 = 0) hc).symm
        · have hw := s64 hc
          refine lv_aload_n X.1.1 X.1.2.1 dX10_sort_18 rfl (lv_at hl 0 rfl) ?_
          refine gt_11_5 X hR (okf X.2.2.1 rfl) kw_1534 dX10_sort_19 ?_
          refine lv_aload_n X.1.1 X.1.2.1 dX10_sort_22 rfl (lv_at hl 0 rfl) ?_
          refine gt_11_11 X hR (okf X.2.2.1 rfl) kw_1540 dX10_sort_23 ?_
          refine lv_iload X.1.1 X.1.2.1 dX10_sort_26 (lv_at hl 4 rfl) ?_
          have c56 := hw.1
          have hw := hw.2
          refine ra_65 X hR (okf X.2.2.1 rfl) c56 dX10_sort_28 ?_
          have c57 := hw.1
          have hw := hw.2
          refine ra_60 X hR (okf X.2.2.1 rfl) c57 dX10_sort_29 ?_
          refine sa_const X.1 dX10_sort_30 ?_
          have s61 := hw.1
          have hw := hw.2
          refine cut_j (A := ∀ v62 : Int, v62 = (if ¬ (M 60 0 (M 65 0 y4)) = 1 then (1 : Int) else (if 1 < (M 67 0 y4) then (0 : Int) else 1)) → WI p l e 2 s m args below meth c G e0 α κ B Qm H locs 50 ls [.int (Int32.ofInt v62)]) (fun J63 => ?_) ?_
          · refine sa_icmp_ne (tgt := 45) X.1 (hR.r 60 0 (M 65 0 y4)) (inR_c (a := 1) rfl) dX10_sort_31 (by decide) (fun hc => ?_) (fun hc => ?_)
            · skip
              refine sa_const X.1 dX10_sort_45 ?_
              refine lv_goto (tgt := 50) X.1.1 X.1.2.1 dX10_sort_46 (by decide) ?_
              exact J63 (1) (if_pos (c := ¬ (M 60 0 (M 65 0 y4)) = 1) hc).symm
            · have hw := s61 hc
              refine lv_aload_n X.1.1 X.1.2.1 dX10_sort_34 rfl (lv_at hl 0 rfl) ?_
              refine gt_11_13 X hR (okf X.2.2.1 rfl) kw_1542 dX10_sort_35 ?_
              refine lv_iload X.1.1 X.1.2.1 dX10_sort_38 (lv_at hl 4 rfl) ?_
              have c58 := hw.1
              have hw := hw.2
              refine ra_67 X hR (okf X.2.2.1 rfl) c58 dX10_sort_40 ?_
              refine sa_const X.1 dX10_sort_41 ?_
              refine cut_j (A := ∀ v59 : Int, v59 = (if 1 < (M 67 0 y4) then (0 : Int) else 1) → WI p l e 2 s m args below meth c G e0 α κ B Qm H locs 50 ls [.int (Int32.ofInt v59)]) (fun J60 => ?_) ?_
              · refine sa_icmp_gt (tgt := 49) X.1 (hR.r 67 0 y4) (inR_c (a := 1) rfl) dX10_sort_42 (by decide) (fun hc => ?_) (fun hc => ?_)
                · skip
                  refine sa_const X.1 dX10_sort_49 ?_
                  exact J60 (0) (if_pos (c := 1 < (M 67 0 y4)) hc).symm
                · skip
                  refine sa_const X.1 dX10_sort_45 ?_
                  refine lv_goto (tgt := 50) X.1.1 X.1.2.1 dX10_sort_46 (by decide) ?_
                  exact J60 (1) (if_neg (c := 1 < (M 67 0 y4)) (Int.not_lt.mpr hc)).symm
              intro v59 hv59
              subst hv59
              exact J63 ((if 1 < (M 67 0 y4) then (0 : Int) else 1)) (if_neg (c := ¬ (M 60 0 (M 65 0 y4)) = 1) (fun z => z hc)).symm
          intro v62 hv62
          subst hv62
          exact J67 ((if ¬ (M 60 0 (M 65 0 y4)) = 1 then (1 : Int) else (if 1 < (M 67 0 y4) then (0 : Int) else 1))) (if_neg (c := y3 = 0) hc).symm
      intro v66 hv66
      subst hv66
      refine lv_istore_n (lv' := [(3, .int (Int32.ofInt (if y3 = 0 then (0 : Int) else (if ¬ (M 60 0 (M 65 0 y4)) = 1 then (1 : Int) else (if 1 < (M 67 0 y4) then (0 : Int) else 1))))), (0, .ref (α 11 0)), (1, .int (Int32.ofInt p1)), (2, .int (Int32.ofInt p2)), (4, .int (Int32.ofInt y4))]) X.1.1 X.1.2.1 dX10_sort_50 rfl hl (by decide) rfl (fun ls hl => ?_)
      have c68 := hw.1
      have hw := hw.2
      refine lv_iinc (v := Int32.ofInt (y4 + 1)) (lv' := [(4, .int (Int32.ofInt (y4 + 1))), (3, .int (Int32.ofInt (if y3 = 0 then (0 : Int) else (if ¬ (M 60 0 (M 65 0 y4)) = 1 then (1 : Int) else (if 1 < (M 67 0 y4) then (0 : Int) else 1))))), (0, .ref (α 11 0)), (1, .int (Int32.ofInt p1)), (2, .int (Int32.ofInt p2))]) X.1.1 X.1.2.1 dX10_sort_51 hl (k := 4) rfl (Int32.ofInt_add _ _).symm (by decide) rfl (fun ls hl => ?_)
      refine lv_goto (tgt := 5) X.1.1 X.1.2.1 dX10_sort_54 (by decide) ?_
      exact ih _ _ _ hw r65 c68 _ _ hR hS _ (lv_sub hl [2, 3, 4, 1, 0] rfl)
set_option maxHeartbeats 4000000 in
set_option maxRecDepth 100000 in
theorem t_X10_sort {p1 : Int} {p2 : Int} (X : CX p m c cX10_sort 7 s args RX10 G B κ meth (some .int)) (hp1 : inR p1) (hp2 : inR p2) {M : Mem} {Qm : Int → Mem → Prop} (hw : wp_X10_sort p1 p2 M Qm) (H : Heap) (locs : List Loc) (hR : Rp G e0 α κ B M H) (hS : va_S (fun q => B ≤ q) s.heap H locs) (ls : Array Slot) (hl : lv_has ls 7 [(0, .ref (α 11 0)), (1, .int (Int32.ofInt p1)), (2, .int (Int32.ofInt p2))]) : WI p l e 2 s m args below meth c G e0 α κ B Qm H locs 0 ls [] := by
  have hw : (∃ n69 : Nat, wp_X10_sort_5 p1 p2 Qm n69 1 0 M) := hw
  refine sa_const X.1 dX10_sort_0 ?_
  refine lv_istore_n (lv' := [(3, .int (Int32.ofInt 1)), (0, .ref (α 11 0)), (1, .int (Int32.ofInt p1)), (2, .int (Int32.ofInt p2))]) X.1.1 X.1.2.1 dX10_sort_1 rfl hl (by decide) rfl (fun ls hl => ?_)
  refine sa_const X.1 dX10_sort_2 ?_
  refine lv_istore (lv' := [(4, .int (Int32.ofInt 0)), (3, .int (Int32.ofInt 1)), (0, .ref (α 11 0)), (1, .int (Int32.ofInt p1)), (2, .int (Int32.ofInt p2))]) X.1.1 X.1.2.1 dX10_sort_3 hl (by decide) rfl (fun ls hl => ?_)
  obtain ⟨n69, hw⟩ := hw
  exact t_X10_sort_5 X hp1 hp2 n69 _ _ _ hw (inR_c (a := 1) rfl) (inR_c (a := 0) rfl) _ _ hR hS _ (lv_sub hl [2, 3, 4, 1, 0] rfl)
theorem m_X10_sort {l : Launch} {G : Gx} {e0 : Nat} {α : Ax} {κ : Nat → Int} {B : Nat} {p1 : Int} {p2 : Int} (hκ : kOK κ) (hp1 : inR p1) (hp2 : inR p2) {M : Mem} {Qm : Int → Mem → Prop} (hw : wp_X10_sort p1 p2 M Qm) : CI l yX10_sort (Cond.code yX10_sort cX10_sort 7 (some .int)) 2 G e0 α κ B [.ref (α 11 0), .int (Int32.ofInt p1), .int (Int32.ofInt p2)] M Qm :=
  CI.mk hκ (by decide +kernel) rfl (Nat.le_of_ble_eq_true rfl) (lv := [(0, .ref (α 11 0)), (1, .int (Int32.ofInt p1)), (2, .int (Int32.ofInt p2))]) rfl (fun p e s m args below meth c ls X hR hS hl => t_X10_sort X hp1 hp2 hw _ _ hR hS ls hl)
theorem cs_X10_sort {cc : ByteArray} {nL : Nat} {own : String} {ret : Option FieldType} {idx pc : Nat} {p1 : Int} {p2 : Int} (X : CX p m c cc nL s args own G B κ meth ret) (hp1 : inR p1) (hp2 : inR p2) {kc : Nat} {R : Room} {cells slots : Nat} (hRr : RmOK R kc) (hcel : cells ≤ R.cells ∧ slots ≤ R.slots) (hk : 2 + 1 ≤ kc) {M : Mem} {H : Heap} {locs : List Loc} (hR : Rp G e0 α κ B M H) (hS : va_S (fun q => B ≤ q) s.heap H locs) (k1 : Cond.methodLink own idx yX10_sort ∈ gw) {ls : Array Slot} (hml : ls.size = nL) {rest : List Value} (hd : decode cc pc = .ok (.invokevirtual idx, 3)) (hrest : (rest.map fun v => v.category).sum ≤ 8) {Q : State → Prop} {Qm : Int → Mem → Prop} (hw : wp_X10_sort p1 p2 M Qm) (kk : ∀ (r : Int) (M1 : Mem) (H1 : Heap) (locs1 : List Loc), Qm r M1 → inR r → Rp G e0 α κ B M1 H1 → va_S (fun q => B ≤ q) s.heap H1 locs1 → W p l e R s m args below meth c H1 locs1 cells slots Q (F0 m (pc + 3) ls (.int (Int32.ofInt r) :: rest))) : W p l e R s m args below meth c H locs cells slots Q (F0 m pc ls (.int (Int32.ofInt p2) :: .int (Int32.ofInt p1) :: .ref (α 11 0) :: rest)) :=
  sa_callVI 2 (n := 2) (As := [.int (Int32.ofInt p1), .int (Int32.ofInt p2)]) (rest := rest) X.1 X.2.1 hR hS (m_X10_sort X.2.2.1 hp1 hp2 hw) k1 kw_1796 kw_1797 kw_104 kw_1798 ⟨rfl, by decide +kernel, by decide +kernel, by decide +kernel⟩ (rm_ok hRr hk (by decide)) (rc_11 X hR (okf X.2.2.1 rfl)) rfl rfl hrest hml hd hcel kk
def wp_X10_leastOf_7 (p1 : Int) (Qm : Int → Mem → Prop) : Nat → Int → Int → Mem → Prop
  | 0 => fun _ _ _ => False
  | n + 1 => fun y2 y3 M => (inR (12 * p1)) ∧ (0 ≤ p1 ∧ p1 < 100) ∧ (inR ((12 * p1) + (M 72 0 p1))) ∧ ((((12 * p1) + (M 72 0 p1)) ≤ y3 → Qm y2 M) ∧ (y3 < ((12 * p1) + (M 72 0 p1)) → (0 ≤ y3 ∧ y3 < 1200) ∧ (¬ (M 71 0 y3) = 0 → (inR ((M 71 0 y3) + 1)) ∧ (0 ≤ y3 ∧ y3 < 1200) ∧ (inR ((M 70 0 y3) - (M 71 0 y3))) ∧ (((M 71 0 y3) + 1) ≤ ((M 70 0 y3) - (M 71 0 y3)) → (0 ≤ y3 ∧ y3 < 1200) ∧ (inR ((M 70 0 y3) - (M 71 0 y3))) ∧ True) ∧ (((M 70 0 y3) - (M 71 0 y3)) < ((M 71 0 y3) + 1) → (inR ((M 71 0 y3) + 1)) ∧ True) ∧ (inR (if ((M 71 0 y3) + 1) ≤ ((M 70 0 y3) - (M 71 0 y3)) then ((M 70 0 y3) - (M 71 0 y3)) else ((M 71 0 y3) + 1))) ∧ True) ∧ ((M 71 0 y3) = 0 → (0 ≤ y3 ∧ y3 < 1200) ∧ True) ∧ (inR (if ¬ (M 71 0 y3) = 0 then (if ((M 71 0 y3) + 1) ≤ ((M 70 0 y3) - (M 71 0 y3)) then ((M 70 0 y3) - (M 71 0 y3)) else ((M 71 0 y3) + 1)) else (M 70 0 y3))) ∧ (inR (y3 + 1)) ∧ wp_X10_leastOf_7 p1 Qm n (if (if ¬ (M 71 0 y3) = 0 then (if ((M 71 0 y3) + 1) ≤ ((M 70 0 y3) - (M 71 0 y3)) then ((M 70 0 y3) - (M 71 0 y3)) else ((M 71 0 y3) + 1)) else (M 70 0 y3)) ≤ y2 then y2 else (if ¬ (M 71 0 y3) = 0 then (if ((M 71 0 y3) + 1) ≤ ((M 70 0 y3) - (M 71 0 y3)) then ((M 70 0 y3) - (M 71 0 y3)) else ((M 71 0 y3) + 1)) else (M 70 0 y3))) (y3 + 1) M))
def wp_X10_leastOf (p1 : Int) (M : Mem) (Qm : Int → Mem → Prop) : Prop := (inR (12 * p1)) ∧ (∃ n29 : Nat, wp_X10_leastOf_7 p1 Qm n29 0 (12 * p1) M)
set_option maxHeartbeats 4000000 in
set_option maxRecDepth 100000 in
theorem t_X10_leastOf_7 {p1 : Int} (X : CX p m c cX10_leastOf 6 s args RX10 G B κ meth (some .int)) (hp1 : inR p1) {Qm : Int → Mem → Prop} : ∀ n : Nat, ∀ y2 : Int, ∀ y3 : Int, ∀ M : Mem, wp_X10_leastOf_7 p1 Qm n y2 y3 M → inR y2 → inR y3 → ∀ (H : Heap) (locs : List Loc), Rp G e0 α κ B M H → va_S (fun q => B ≤ q) s.heap H locs → ∀ (ls : Array Slot), lv_has ls 6 [(0, .ref (α 11 0)), (1, .int (Int32.ofInt p1)), (2, .int (Int32.ofInt y2)), (3, .int (Int32.ofInt y3))] → WI p l e 0 s m args below meth c G e0 α κ B Qm H locs 7 ls [] := by
  intro n
  induction n with
  | zero =>
    intro y2 y3 M hw hy2 hy3 H locs hR hS ls hl
    exact hw.elim
  | succ n ih =>
    intro y2 y3 M hw hy2 hy3 H locs hR hS ls hl
    have hw : (inR (12 * p1)) ∧ (0 ≤ p1 ∧ p1 < 100) ∧ (inR ((12 * p1) + (M 72 0 p1))) ∧ ((((12 * p1) + (M 72 0 p1)) ≤ y3 → Qm y2 M) ∧ (y3 < ((12 * p1) + (M 72 0 p1)) → (0 ≤ y3 ∧ y3 < 1200) ∧ (¬ (M 71 0 y3) = 0 → (inR ((M 71 0 y3) + 1)) ∧ (0 ≤ y3 ∧ y3 < 1200) ∧ (inR ((M 70 0 y3) - (M 71 0 y3))) ∧ (((M 71 0 y3) + 1) ≤ ((M 70 0 y3) - (M 71 0 y3)) → (0 ≤ y3 ∧ y3 < 1200) ∧ (inR ((M 70 0 y3) - (M 71 0 y3))) ∧ True) ∧ (((M 70 0 y3) - (M 71 0 y3)) < ((M 71 0 y3) + 1) → (inR ((M 71 0 y3) + 1)) ∧ True) ∧ (inR (if ((M 71 0 y3) + 1) ≤ ((M 70 0 y3) - (M 71 0 y3)) then ((M 70 0 y3) - (M 71 0 y3)) else ((M 71 0 y3) + 1))) ∧ True) ∧ ((M 71 0 y3) = 0 → (0 ≤ y3 ∧ y3 < 1200) ∧ True) ∧ (inR (if ¬ (M 71 0 y3) = 0 then (if ((M 71 0 y3) + 1) ≤ ((M 70 0 y3) - (M 71 0 y3)) then ((M 70 0 y3) - (M 71 0 y3)) else ((M 71 0 y3) + 1)) else (M 70 0 y3))) ∧ (inR (y3 + 1)) ∧ wp_X10_leastOf_7 p1 Qm n (if (if ¬ (M 71 0 y3) = 0 then (if ((M 71 0 y3) + 1) ≤ ((M 70 0 y3) - (M 71 0 y3)) then ((M 70 0 y3) - (M 71 0 y3)) else ((M 71 0 y3) + 1)) else (M 70 0 y3)) ≤ y2 then y2 else (if ¬ (M 71 0 y3) = 0 then (if ((M 71 0 y3) + 1) ≤ ((M 70 0 y3) - (M 71 0 y3)) then ((M 70 0 y3) - (M 71 0 y3)) else ((M 71 0 y3) + 1)) else (M 70 0 y3))) (y3 + 1) M)) := hw
    refine lv_iload_n X.1.1 X.1.2.1 dX10_leastOf_7 rfl (lv_at hl 3 rfl) ?_
    refine sa_bipush X.1 dX10_leastOf_8 (by decide) ?_
    refine lv_iload_n X.1.1 X.1.2.1 dX10_leastOf_10 rfl (lv_at hl 1 rfl) ?_
    have c2 := hw.1
    have hw := hw.2
    refine sa_imul X.1 dX10_leastOf_11 ?_
    refine lv_aload_n X.1.1 X.1.2.1 dX10_leastOf_12 rfl (lv_at hl 0 rfl) ?_
    refine gt_11_19 X hR (okf X.2.2.1 rfl) kw_1548 dX10_leastOf_13 ?_
    refine lv_iload_n X.1.1 X.1.2.1 dX10_leastOf_16 rfl (lv_at hl 1 rfl) ?_
    have c3 := hw.1
    have hw := hw.2
    refine ra_72 X hR (okf X.2.2.1 rfl) c3 dX10_leastOf_17 ?_
    have r4 := hR.r 72 0 p1
    have c5 := hw.1
    have hw := hw.2
    refine sa_iadd X.1 dX10_leastOf_18 ?_
    refine sa_icmp_ge (tgt := 97) X.1 hy3 c5 dX10_leastOf_19 (by decide) (fun hc => ?_) (fun hc => ?_)
    · have hw := hw.1 hc
      refine lv_iload_n X.1.1 X.1.2.1 dX10_leastOf_97 rfl (lv_at hl 2 rfl) ?_
      exact sa_iret X.1 X.2.2.2.1 X.2.2.2.2 hR hS hy2 hw dX10_leastOf_98
    · have hw := hw.2 hc
      refine lv_aload_n X.1.1 X.1.2.1 dX10_leastOf_22 rfl (lv_at hl 0 rfl) ?_
      refine gt_11_18 X hR (okf X.2.2.1 rfl) kw_1547 dX10_leastOf_23 ?_
      refine lv_iload_n X.1.1 X.1.2.1 dX10_leastOf_26 rfl (lv_at hl 3 rfl) ?_
      have c6 := hw.1
      have hw := hw.2
      refine ra_71 X hR (okf X.2.2.1 rfl) c6 dX10_leastOf_27 ?_
      have r7 := hR.r 71 0 y3
      refine lv_istore (lv' := [(4, .int (Int32.ofInt (M 71 0 y3))), (0, .ref (α 11 0)), (1, .int (Int32.ofInt p1)), (2, .int (Int32.ofInt y2)), (3, .int (Int32.ofInt y3))]) X.1.1 X.1.2.1 dX10_leastOf_28 hl (by decide) rfl (fun ls hl => ?_)
      refine lv_iload X.1.1 X.1.2.1 dX10_leastOf_30 (lv_at hl 0 rfl) ?_
      have s20 := hw.1
      have hw := hw.2
      have s21 := hw.1
      have hw := hw.2
      have c22 := hw.1
      have hw := hw.2
      refine cut_j (A := ∀ v23 : Int, v23 = (if ¬ (M 71 0 y3) = 0 then (if ((M 71 0 y3) + 1) ≤ ((M 70 0 y3) - (M 71 0 y3)) then ((M 70 0 y3) - (M 71 0 y3)) else ((M 71 0 y3) + 1)) else (M 70 0 y3)) → WI p l e 0 s m args below meth c G e0 α κ B Qm H locs 76 ls [.int (Int32.ofInt v23)]) (fun J24 => ?_) ?_
      · refine sa_if_ne (tgt := 44) X.1 r7 dX10_leastOf_32 (by decide) (fun hc => ?_) (fun hc => ?_)
        · have hw := s20 hc
          refine lv_iload X.1.1 X.1.2.1 dX10_leastOf_44 (lv_at hl 0 rfl) ?_
          refine sa_const X.1 dX10_leastOf_46 ?_
          have c8 := hw.1
          have hw := hw.2
          refine sa_iadd X.1 dX10_leastOf_47 ?_
          refine lv_aload_n X.1.1 X.1.2.1 dX10_leastOf_48 rfl (lv_at hl 1 rfl) ?_
          refine gt_11_17 X hR (okf X.2.2.1 rfl) kw_1546 dX10_leastOf_49 ?_
          refine lv_iload_n X.1.1 X.1.2.1 dX10_leastOf_52 rfl (lv_at hl 4 rfl) ?_
          have c9 := hw.1
          have hw := hw.2
          refine ra_70 X hR (okf X.2.2.1 rfl) c9 dX10_leastOf_53 ?_
          refine lv_iload X.1.1 X.1.2.1 dX10_leastOf_54 (lv_at hl 0 rfl) ?_
          have c10 := hw.1
          have hw := hw.2
          refine sa_isub X.1 dX10_leastOf_56 ?_
          have s14 := hw.1
          have hw := hw.2
          have s15 := hw.1
          have hw := hw.2
          have c16 := hw.1
          have hw := hw.2
          refine cut_j (A := ∀ v17 : Int, v17 = (if ((M 71 0 y3) + 1) ≤ ((M 70 0 y3) - (M 71 0 y3)) then ((M 70 0 y3) - (M 71 0 y3)) else ((M 71 0 y3) + 1)) → WI p l e 0 s m args below meth c G e0 α κ B Qm H locs 76 ls [.int (Int32.ofInt v17)]) (fun J18 => ?_) ?_
          · refine sa_icmp_le (tgt := 67) X.1 c8 c10 dX10_leastOf_57 (by decide) (fun hc => ?_) (fun hc => ?_)
            · have hw := s14 hc
              refine lv_aload_n X.1.1 X.1.2.1 dX10_leastOf_67 rfl (lv_at hl 1 rfl) ?_
              refine gt_11_17 X hR (okf X.2.2.1 rfl) kw_1546 dX10_leastOf_68 ?_
              refine lv_iload_n X.1.1 X.1.2.1 dX10_leastOf_71 rfl (lv_at hl 4 rfl) ?_
              have c11 := hw.1
              have hw := hw.2
              refine ra_70 X hR (okf X.2.2.1 rfl) c11 dX10_leastOf_72 ?_
              refine lv_iload X.1.1 X.1.2.1 dX10_leastOf_73 (lv_at hl 0 rfl) ?_
              have c12 := hw.1
              have hw := hw.2
              refine sa_isub X.1 dX10_leastOf_75 ?_
              exact J18 (((M 70 0 y3) - (M 71 0 y3))) (if_pos (c := ((M 71 0 y3) + 1) ≤ ((M 70 0 y3) - (M 71 0 y3))) hc).symm
            · have hw := s15 hc
              refine lv_iload X.1.1 X.1.2.1 dX10_leastOf_60 (lv_at hl 0 rfl) ?_
              refine sa_const X.1 dX10_leastOf_62 ?_
              have c13 := hw.1
              have hw := hw.2
              refine sa_iadd X.1 dX10_leastOf_63 ?_
              refine lv_goto (tgt := 76) X.1.1 X.1.2.1 dX10_leastOf_64 (by decide) ?_
              exact J18 (((M 71 0 y3) + 1)) (if_neg (c := ((M 71 0 y3) + 1) ≤ ((M 70 0 y3) - (M 71 0 y3))) (Int.not_le.mpr hc)).symm
          intro v17 hv17
          subst hv17
          exact J24 ((if ((M 71 0 y3) + 1) ≤ ((M 70 0 y3) - (M 71 0 y3)) then ((M 70 0 y3) - (M 71 0 y3)) else ((M 71 0 y3) + 1))) (if_pos (c := ¬ (M 71 0 y3) = 0) hc).symm
        · have hw := s21 hc
          refine lv_aload_n X.1.1 X.1.2.1 dX10_leastOf_35 rfl (lv_at hl 1 rfl) ?_
          refine gt_11_17 X hR (okf X.2.2.1 rfl) kw_1546 dX10_leastOf_36 ?_
          refine lv_iload_n X.1.1 X.1.2.1 dX10_leastOf_39 rfl (lv_at hl 4 rfl) ?_
          have c19 := hw.1
          have hw := hw.2
          refine ra_70 X hR (okf X.2.2.1 rfl) c19 dX10_leastOf_40 ?_
          refine lv_goto (tgt := 76) X.1.1 X.1.2.1 dX10_leastOf_41 (by decide) ?_
          exact J24 ((M 70 0 y3)) (if_neg (c := ¬ (M 71 0 y3) = 0) (fun z => z hc)).symm
      intro v23 hv23
      subst hv23
      refine lv_istore (lv' := [(5, .int (Int32.ofInt (if ¬ (M 71 0 y3) = 0 then (if ((M 71 0 y3) + 1) ≤ ((M 70 0 y3) - (M 71 0 y3)) then ((M 70 0 y3) - (M 71 0 y3)) else ((M 71 0 y3) + 1)) else (M 70 0 y3)))), (4, .int (Int32.ofInt (M 71 0 y3))), (0, .ref (α 11 0)), (1, .int (Int32.ofInt p1)), (2, .int (Int32.ofInt y2)), (3, .int (Int32.ofInt y3))]) X.1.1 X.1.2.1 dX10_leastOf_76 hl (by decide) rfl (fun ls hl => ?_)
      refine lv_iload X.1.1 X.1.2.1 dX10_leastOf_78 (lv_at hl 0 rfl) ?_
      refine lv_iload_n X.1.1 X.1.2.1 dX10_leastOf_80 rfl (lv_at hl 4 rfl) ?_
      have r25 := inR_ite (c := (if ¬ (M 71 0 y3) = 0 then (if ((M 71 0 y3) + 1) ≤ ((M 70 0 y3) - (M 71 0 y3)) then ((M 70 0 y3) - (M 71 0 y3)) else ((M 71 0 y3) + 1)) else (M 70 0 y3)) ≤ y2) hy2 c22
      refine cut_j (A := ∀ v26 : Int, v26 = (if (if ¬ (M 71 0 y3) = 0 then (if ((M 71 0 y3) + 1) ≤ ((M 70 0 y3) - (M 71 0 y3)) then ((M 70 0 y3) - (M 71 0 y3)) else ((M 71 0 y3) + 1)) else (M 70 0 y3)) ≤ y2 then y2 else (if ¬ (M 71 0 y3) = 0 then (if ((M 71 0 y3) + 1) ≤ ((M 70 0 y3) - (M 71 0 y3)) then ((M 70 0 y3) - (M 71 0 y3)) else ((M 71 0 y3) + 1)) else (M 70 0 y3))) → WI p l e 0 s m args below meth c G e0 α κ B Qm H locs 90 ls [.int (Int32.ofInt v26)]) (fun J27 => ?_) ?_
      · refine sa_icmp_le (tgt := 89) X.1 c22 hy2 dX10_leastOf_81 (by decide) (fun hc => ?_) (fun hc => ?_)
        · skip
          refine lv_iload_n X.1.1 X.1.2.1 dX10_leastOf_89 rfl (lv_at hl 4 rfl) ?_
          exact J27 (y2) (if_pos (c := (if ¬ (M 71 0 y3) = 0 then (if ((M 71 0 y3) + 1) ≤ ((M 70 0 y3) - (M 71 0 y3)) then ((M 70 0 y3) - (M 71 0 y3)) else ((M 71 0 y3) + 1)) else (M 70 0 y3)) ≤ y2) hc).symm
        · skip
          refine lv_iload X.1.1 X.1.2.1 dX10_leastOf_84 (lv_at hl 0 rfl) ?_
          refine lv_goto (tgt := 90) X.1.1 X.1.2.1 dX10_leastOf_86 (by decide) ?_
          exact J27 ((if ¬ (M 71 0 y3) = 0 then (if ((M 71 0 y3) + 1) ≤ ((M 70 0 y3) - (M 71 0 y3)) then ((M 70 0 y3) - (M 71 0 y3)) else ((M 71 0 y3) + 1)) else (M 70 0 y3))) (if_neg (c := (if ¬ (M 71 0 y3) = 0 then (if ((M 71 0 y3) + 1) ≤ ((M 70 0 y3) - (M 71 0 y3)) then ((M 70 0 y3) - (M 71 0 y3)) else ((M 71 0 y3) + 1)) else (M 70 0 y3)) ≤ y2) (Int.not_le.mpr hc)).symm
      intro v26 hv26
      subst hv26
      refine lv_istore_n (lv' := [(2, .int (Int32.ofInt (if (if ¬ (M 71 0 y3) = 0 then (if ((M 71 0 y3) + 1) ≤ ((M 70 0 y3) - (M 71 0 y3)) then ((M 70 0 y3) - (M 71 0 y3)) else ((M 71 0 y3) + 1)) else (M 70 0 y3)) ≤ y2 then y2 else (if ¬ (M 71 0 y3) = 0 then (if ((M 71 0 y3) + 1) ≤ ((M 70 0 y3) - (M 71 0 y3)) then ((M 70 0 y3) - (M 71 0 y3)) else ((M 71 0 y3) + 1)) else (M 70 0 y3))))), (5, .int (Int32.ofInt (if ¬ (M 71 0 y3) = 0 then (if ((M 71 0 y3) + 1) ≤ ((M 70 0 y3) - (M 71 0 y3)) then ((M 70 0 y3) - (M 71 0 y3)) else ((M 71 0 y3) + 1)) else (M 70 0 y3)))), (4, .int (Int32.ofInt (M 71 0 y3))), (0, .ref (α 11 0)), (1, .int (Int32.ofInt p1)), (3, .int (Int32.ofInt y3))]) X.1.1 X.1.2.1 dX10_leastOf_90 rfl hl (by decide) rfl (fun ls hl => ?_)
      have c28 := hw.1
      have hw := hw.2
      refine lv_iinc (v := Int32.ofInt (y3 + 1)) (lv' := [(3, .int (Int32.ofInt (y3 + 1))), (2, .int (Int32.ofInt (if (if ¬ (M 71 0 y3) = 0 then (if ((M 71 0 y3) + 1) ≤ ((M 70 0 y3) - (M 71 0 y3)) then ((M 70 0 y3) - (M 71 0 y3)) else ((M 71 0 y3) + 1)) else (M 70 0 y3)) ≤ y2 then y2 else (if ¬ (M 71 0 y3) = 0 then (if ((M 71 0 y3) + 1) ≤ ((M 70 0 y3) - (M 71 0 y3)) then ((M 70 0 y3) - (M 71 0 y3)) else ((M 71 0 y3) + 1)) else (M 70 0 y3))))), (5, .int (Int32.ofInt (if ¬ (M 71 0 y3) = 0 then (if ((M 71 0 y3) + 1) ≤ ((M 70 0 y3) - (M 71 0 y3)) then ((M 70 0 y3) - (M 71 0 y3)) else ((M 71 0 y3) + 1)) else (M 70 0 y3)))), (4, .int (Int32.ofInt (M 71 0 y3))), (0, .ref (α 11 0)), (1, .int (Int32.ofInt p1))]) X.1.1 X.1.2.1 dX10_leastOf_91 hl (k := 5) rfl (Int32.ofInt_add _ _).symm (by decide) rfl (fun ls hl => ?_)
      refine lv_goto (tgt := 7) X.1.1 X.1.2.1 dX10_leastOf_94 (by decide) ?_
      exact ih _ _ _ hw r25 c28 _ _ hR hS _ (lv_sub hl [4, 5, 1, 0] rfl)
set_option maxHeartbeats 4000000 in
set_option maxRecDepth 100000 in
theorem t_X10_leastOf {p1 : Int} (X : CX p m c cX10_leastOf 6 s args RX10 G B κ meth (some .int)) (hp1 : inR p1) {M : Mem} {Qm : Int → Mem → Prop} (hw : wp_X10_leastOf p1 M Qm) (H : Heap) (locs : List Loc) (hR : Rp G e0 α κ B M H) (hS : va_S (fun q => B ≤ q) s.heap H locs) (ls : Array Slot) (hl : lv_has ls 6 [(0, .ref (α 11 0)), (1, .int (Int32.ofInt p1))]) : WI p l e 0 s m args below meth c G e0 α κ B Qm H locs 0 ls [] := by
  have hw : (inR (12 * p1)) ∧ (∃ n29 : Nat, wp_X10_leastOf_7 p1 Qm n29 0 (12 * p1) M) := hw
  refine sa_const X.1 dX10_leastOf_0 ?_
  refine lv_istore_n (lv' := [(2, .int (Int32.ofInt 0)), (0, .ref (α 11 0)), (1, .int (Int32.ofInt p1))]) X.1.1 X.1.2.1 dX10_leastOf_1 rfl hl (by decide) rfl (fun ls hl => ?_)
  refine sa_bipush X.1 dX10_leastOf_2 (by decide) ?_
  refine lv_iload_n X.1.1 X.1.2.1 dX10_leastOf_4 rfl (lv_at hl 2 rfl) ?_
  have c1 := hw.1
  have hw := hw.2
  refine sa_imul X.1 dX10_leastOf_5 ?_
  refine lv_istore_n (lv' := [(3, .int (Int32.ofInt (12 * p1))), (2, .int (Int32.ofInt 0)), (0, .ref (α 11 0)), (1, .int (Int32.ofInt p1))]) X.1.1 X.1.2.1 dX10_leastOf_6 rfl hl (by decide) rfl (fun ls hl => ?_)
  obtain ⟨n29, hw⟩ := hw
  exact t_X10_leastOf_7 X hp1 n29 _ _ _ hw (inR_c (a := 0) rfl) c1 _ _ hR hS _ (lv_sub hl [2, 3, 1, 0] rfl)
theorem m_X10_leastOf {l : Launch} {G : Gx} {e0 : Nat} {α : Ax} {κ : Nat → Int} {B : Nat} {p1 : Int} (hκ : kOK κ) (hp1 : inR p1) {M : Mem} {Qm : Int → Mem → Prop} (hw : wp_X10_leastOf p1 M Qm) : CI l yX10_leastOf (Cond.code yX10_leastOf cX10_leastOf 6 (some .int)) 0 G e0 α κ B [.ref (α 11 0), .int (Int32.ofInt p1)] M Qm :=
  CI.mk hκ (by decide +kernel) rfl (Nat.le_of_ble_eq_true rfl) (lv := [(0, .ref (α 11 0)), (1, .int (Int32.ofInt p1))]) rfl (fun p e s m args below meth c ls X hR hS hl => t_X10_leastOf X hp1 hw _ _ hR hS ls hl)
theorem cs_X10_leastOf {cc : ByteArray} {nL : Nat} {own : String} {ret : Option FieldType} {idx pc : Nat} {p1 : Int} (X : CX p m c cc nL s args own G B κ meth ret) (hp1 : inR p1) {kc : Nat} {R : Room} {cells slots : Nat} (hRr : RmOK R kc) (hcel : cells ≤ R.cells ∧ slots ≤ R.slots) (hk : 0 + 1 ≤ kc) {M : Mem} {H : Heap} {locs : List Loc} (hR : Rp G e0 α κ B M H) (hS : va_S (fun q => B ≤ q) s.heap H locs) (k1 : Cond.methodLink own idx yX10_leastOf ∈ gw) {ls : Array Slot} (hml : ls.size = nL) {rest : List Value} (hd : decode cc pc = .ok (.invokevirtual idx, 3)) (hrest : (rest.map fun v => v.category).sum ≤ 8) {Q : State → Prop} {Qm : Int → Mem → Prop} (hw : wp_X10_leastOf p1 M Qm) (kk : ∀ (r : Int) (M1 : Mem) (H1 : Heap) (locs1 : List Loc), Qm r M1 → inR r → Rp G e0 α κ B M1 H1 → va_S (fun q => B ≤ q) s.heap H1 locs1 → W p l e R s m args below meth c H1 locs1 cells slots Q (F0 m (pc + 3) ls (.int (Int32.ofInt r) :: rest))) : W p l e R s m args below meth c H locs cells slots Q (F0 m pc ls (.int (Int32.ofInt p1) :: .ref (α 11 0) :: rest)) :=
  sa_callVI 0 (n := 1) (As := [.int (Int32.ofInt p1)]) (rest := rest) X.1 X.2.1 hR hS (m_X10_leastOf X.2.2.1 hp1 hw) k1 kw_1839 kw_56 kw_104 kw_1840 ⟨rfl, by decide +kernel, by decide +kernel, by decide +kernel⟩ (rm_ok hRr hk (by decide)) (rc_11 X hR (okf X.2.2.1 rfl)) rfl rfl hrest hml hd hcel kk
def wp_X10_mostOf_27 (p1 : Int) (Qm : Int → Mem → Prop) : Nat → Int → Int → Mem → Prop
  | 0 => fun _ _ _ => False
  | n + 1 => fun y2 y3 M => (inR (12 * p1)) ∧ (0 ≤ p1 ∧ p1 < 100) ∧ (inR ((12 * p1) + (M 72 0 p1))) ∧ ((((12 * p1) + (M 72 0 p1)) ≤ y3 → Qm y2 M) ∧ (y3 < ((12 * p1) + (M 72 0 p1)) → (0 ≤ y3 ∧ y3 < 1200) ∧ (inR (y2 + (M 70 0 y3))) ∧ (inR (y3 + 1)) ∧ wp_X10_mostOf_27 p1 Qm n (y2 + (M 70 0 y3)) (y3 + 1) M))
def wp_X10_mostOf (p1 : Int) (M : Mem) (Qm : Int → Mem → Prop) : Prop := (0 ≤ p1 ∧ p1 < 100) ∧ (0 < (M 72 0 p1) → (0 ≤ p1 ∧ p1 < 100) ∧ (inR ((M 72 0 p1) - 1)) ∧ True) ∧ (inR (if (M 72 0 p1) ≤ 0 then (0 : Int) else ((M 72 0 p1) - 1))) ∧ (inR (12 * p1)) ∧ (∃ n18 : Nat, wp_X10_mostOf_27 p1 Qm n18 (if (M 72 0 p1) ≤ 0 then (0 : Int) else ((M 72 0 p1) - 1)) (12 * p1) M)
set_option maxHeartbeats 4000000 in
set_option maxRecDepth 100000 in
theorem t_X10_mostOf_27 {p1 : Int} (X : CX p m c cX10_mostOf 4 s args RX10 G B κ meth (some .int)) (hp1 : inR p1) {Qm : Int → Mem → Prop} : ∀ n : Nat, ∀ y2 : Int, ∀ y3 : Int, ∀ M : Mem, wp_X10_mostOf_27 p1 Qm n y2 y3 M → inR y2 → inR y3 → ∀ (H : Heap) (locs : List Loc), Rp G e0 α κ B M H → va_S (fun q => B ≤ q) s.heap H locs → ∀ (ls : Array Slot), lv_has ls 4 [(0, .ref (α 11 0)), (1, .int (Int32.ofInt p1)), (2, .int (Int32.ofInt y2)), (3, .int (Int32.ofInt y3))] → WI p l e 0 s m args below meth c G e0 α κ B Qm H locs 27 ls [] := by
  intro n
  induction n with
  | zero =>
    intro y2 y3 M hw hy2 hy3 H locs hR hS ls hl
    exact hw.elim
  | succ n ih =>
    intro y2 y3 M hw hy2 hy3 H locs hR hS ls hl
    have hw : (inR (12 * p1)) ∧ (0 ≤ p1 ∧ p1 < 100) ∧ (inR ((12 * p1) + (M 72 0 p1))) ∧ ((((12 * p1) + (M 72 0 p1)) ≤ y3 → Qm y2 M) ∧ (y3 < ((12 * p1) + (M 72 0 p1)) → (0 ≤ y3 ∧ y3 < 1200) ∧ (inR (y2 + (M 70 0 y3))) ∧ (inR (y3 + 1)) ∧ wp_X10_mostOf_27 p1 Qm n (y2 + (M 70 0 y3)) (y3 + 1) M)) := hw
    refine lv_iload_n X.1.1 X.1.2.1 dX10_mostOf_27 rfl (lv_at hl 3 rfl) ?_
    refine sa_bipush X.1 dX10_mostOf_28 (by decide) ?_
    refine lv_iload_n X.1.1 X.1.2.1 dX10_mostOf_30 rfl (lv_at hl 1 rfl) ?_
    have c10 := hw.1
    have hw := hw.2
    refine sa_imul X.1 dX10_mostOf_31 ?_
    refine lv_aload_n X.1.1 X.1.2.1 dX10_mostOf_32 rfl (lv_at hl 0 rfl) ?_
    refine gt_11_19 X hR (okf X.2.2.1 rfl) kw_1548 dX10_mostOf_33 ?_
    refine lv_iload_n X.1.1 X.1.2.1 dX10_mostOf_36 rfl (lv_at hl 1 rfl) ?_
    have c11 := hw.1
    have hw := hw.2
    refine ra_72 X hR (okf X.2.2.1 rfl) c11 dX10_mostOf_37 ?_
    have r12 := hR.r 72 0 p1
    have c13 := hw.1
    have hw := hw.2
    refine sa_iadd X.1 dX10_mostOf_38 ?_
    refine sa_icmp_ge (tgt := 57) X.1 hy3 c13 dX10_mostOf_39 (by decide) (fun hc => ?_) (fun hc => ?_)
    · have hw := hw.1 hc
      refine lv_iload_n X.1.1 X.1.2.1 dX10_mostOf_57 rfl (lv_at hl 2 rfl) ?_
      exact sa_iret X.1 X.2.2.2.1 X.2.2.2.2 hR hS hy2 hw dX10_mostOf_58
    · have hw := hw.2 hc
      refine lv_iload_n X.1.1 X.1.2.1 dX10_mostOf_42 rfl (lv_at hl 2 rfl) ?_
      refine lv_aload_n X.1.1 X.1.2.1 dX10_mostOf_43 rfl (lv_at hl 0 rfl) ?_
      refine gt_11_17 X hR (okf X.2.2.1 rfl) kw_1546 dX10_mostOf_44 ?_
      refine lv_iload_n X.1.1 X.1.2.1 dX10_mostOf_47 rfl (lv_at hl 3 rfl) ?_
      have c14 := hw.1
      have hw := hw.2
      refine ra_70 X hR (okf X.2.2.1 rfl) c14 dX10_mostOf_48 ?_
      have r15 := hR.r 70 0 y3
      have c16 := hw.1
      have hw := hw.2
      refine sa_iadd X.1 dX10_mostOf_49 ?_
      refine lv_istore_n (lv' := [(2, .int (Int32.ofInt (y2 + (M 70 0 y3)))), (0, .ref (α 11 0)), (1, .int (Int32.ofInt p1)), (3, .int (Int32.ofInt y3))]) X.1.1 X.1.2.1 dX10_mostOf_50 rfl hl (by decide) rfl (fun ls hl => ?_)
      have c17 := hw.1
      have hw := hw.2
      refine lv_iinc (v := Int32.ofInt (y3 + 1)) (lv' := [(3, .int (Int32.ofInt (y3 + 1))), (2, .int (Int32.ofInt (y2 + (M 70 0 y3)))), (0, .ref (α 11 0)), (1, .int (Int32.ofInt p1))]) X.1.1 X.1.2.1 dX10_mostOf_51 hl (k := 3) rfl (Int32.ofInt_add _ _).symm (by decide) rfl (fun ls hl => ?_)
      refine lv_goto (tgt := 27) X.1.1 X.1.2.1 dX10_mostOf_54 (by decide) ?_
      exact ih _ _ _ hw c16 c17 _ _ hR hS _ (lv_sub hl [2, 3, 1, 0] rfl)
set_option maxHeartbeats 4000000 in
set_option maxRecDepth 100000 in
theorem t_X10_mostOf {p1 : Int} (X : CX p m c cX10_mostOf 4 s args RX10 G B κ meth (some .int)) (hp1 : inR p1) {M : Mem} {Qm : Int → Mem → Prop} (hw : wp_X10_mostOf p1 M Qm) (H : Heap) (locs : List Loc) (hR : Rp G e0 α κ B M H) (hS : va_S (fun q => B ≤ q) s.heap H locs) (ls : Array Slot) (hl : lv_has ls 4 [(0, .ref (α 11 0)), (1, .int (Int32.ofInt p1))]) : WI p l e 0 s m args below meth c G e0 α κ B Qm H locs 0 ls [] := by
  have hw : (0 ≤ p1 ∧ p1 < 100) ∧ (0 < (M 72 0 p1) → (0 ≤ p1 ∧ p1 < 100) ∧ (inR ((M 72 0 p1) - 1)) ∧ True) ∧ (inR (if (M 72 0 p1) ≤ 0 then (0 : Int) else ((M 72 0 p1) - 1))) ∧ (inR (12 * p1)) ∧ (∃ n18 : Nat, wp_X10_mostOf_27 p1 Qm n18 (if (M 72 0 p1) ≤ 0 then (0 : Int) else ((M 72 0 p1) - 1)) (12 * p1) M) := hw
  refine lv_aload_n X.1.1 X.1.2.1 dX10_mostOf_0 rfl (lv_at hl 0 rfl) ?_
  refine gt_11_19 X hR (okf X.2.2.1 rfl) kw_1548 dX10_mostOf_1 ?_
  refine lv_iload_n X.1.1 X.1.2.1 dX10_mostOf_4 rfl (lv_at hl 1 rfl) ?_
  have c1 := hw.1
  have hw := hw.2
  refine ra_72 X hR (okf X.2.2.1 rfl) c1 dX10_mostOf_5 ?_
  have r2 := hR.r 72 0 p1
  have s5 := hw.1
  have hw := hw.2
  have c6 := hw.1
  have hw := hw.2
  refine cut_j (A := ∀ v7 : Int, v7 = (if (M 72 0 p1) ≤ 0 then (0 : Int) else ((M 72 0 p1) - 1)) → WI p l e 0 s m args below meth c G e0 α κ B Qm H locs 21 ls [.int (Int32.ofInt v7)]) (fun J8 => ?_) ?_
  · refine sa_if_le (tgt := 20) X.1 r2 dX10_mostOf_6 (by decide) (fun hc => ?_) (fun hc => ?_)
    · skip
      refine sa_const X.1 dX10_mostOf_20 ?_
      exact J8 (0) (if_pos (c := (M 72 0 p1) ≤ 0) hc).symm
    · have hw := s5 hc
      refine lv_aload_n X.1.1 X.1.2.1 dX10_mostOf_9 rfl (lv_at hl 0 rfl) ?_
      refine gt_11_19 X hR (okf X.2.2.1 rfl) kw_1548 dX10_mostOf_10 ?_
      refine lv_iload_n X.1.1 X.1.2.1 dX10_mostOf_13 rfl (lv_at hl 1 rfl) ?_
      have c3 := hw.1
      have hw := hw.2
      refine ra_72 X hR (okf X.2.2.1 rfl) c3 dX10_mostOf_14 ?_
      refine sa_const X.1 dX10_mostOf_15 ?_
      have c4 := hw.1
      have hw := hw.2
      refine sa_isub X.1 dX10_mostOf_16 ?_
      refine lv_goto (tgt := 21) X.1.1 X.1.2.1 dX10_mostOf_17 (by decide) ?_
      exact J8 (((M 72 0 p1) - 1)) (if_neg (c := (M 72 0 p1) ≤ 0) (Int.not_le.mpr hc)).symm
  intro v7 hv7
  subst hv7
  refine lv_istore_n (lv' := [(2, .int (Int32.ofInt (if (M 72 0 p1) ≤ 0 then (0 : Int) else ((M 72 0 p1) - 1)))), (0, .ref (α 11 0)), (1, .int (Int32.ofInt p1))]) X.1.1 X.1.2.1 dX10_mostOf_21 rfl hl (by decide) rfl (fun ls hl => ?_)
  refine sa_bipush X.1 dX10_mostOf_22 (by decide) ?_
  refine lv_iload_n X.1.1 X.1.2.1 dX10_mostOf_24 rfl (lv_at hl 2 rfl) ?_
  have c9 := hw.1
  have hw := hw.2
  refine sa_imul X.1 dX10_mostOf_25 ?_
  refine lv_istore_n (lv' := [(3, .int (Int32.ofInt (12 * p1))), (2, .int (Int32.ofInt (if (M 72 0 p1) ≤ 0 then (0 : Int) else ((M 72 0 p1) - 1)))), (0, .ref (α 11 0)), (1, .int (Int32.ofInt p1))]) X.1.1 X.1.2.1 dX10_mostOf_26 rfl hl (by decide) rfl (fun ls hl => ?_)
  obtain ⟨n18, hw⟩ := hw
  exact t_X10_mostOf_27 X hp1 n18 _ _ _ hw c6 c9 _ _ hR hS _ (lv_sub hl [2, 3, 1, 0] rfl)
theorem m_X10_mostOf {l : Launch} {G : Gx} {e0 : Nat} {α : Ax} {κ : Nat → Int} {B : Nat} {p1 : Int} (hκ : kOK κ) (hp1 : inR p1) {M : Mem} {Qm : Int → Mem → Prop} (hw : wp_X10_mostOf p1 M Qm) : CI l yX10_mostOf (Cond.code yX10_mostOf cX10_mostOf 4 (some .int)) 0 G e0 α κ B [.ref (α 11 0), .int (Int32.ofInt p1)] M Qm :=
  CI.mk hκ (by decide +kernel) rfl (Nat.le_of_ble_eq_true rfl) (lv := [(0, .ref (α 11 0)), (1, .int (Int32.ofInt p1))]) rfl (fun p e s m args below meth c ls X hR hS hl => t_X10_mostOf X hp1 hw _ _ hR hS ls hl)
theorem cs_X10_mostOf {cc : ByteArray} {nL : Nat} {own : String} {ret : Option FieldType} {idx pc : Nat} {p1 : Int} (X : CX p m c cc nL s args own G B κ meth ret) (hp1 : inR p1) {kc : Nat} {R : Room} {cells slots : Nat} (hRr : RmOK R kc) (hcel : cells ≤ R.cells ∧ slots ≤ R.slots) (hk : 0 + 1 ≤ kc) {M : Mem} {H : Heap} {locs : List Loc} (hR : Rp G e0 α κ B M H) (hS : va_S (fun q => B ≤ q) s.heap H locs) (k1 : Cond.methodLink own idx yX10_mostOf ∈ gw) {ls : Array Slot} (hml : ls.size = nL) {rest : List Value} (hd : decode cc pc = .ok (.invokevirtual idx, 3)) (hrest : (rest.map fun v => v.category).sum ≤ 8) {Q : State → Prop} {Qm : Int → Mem → Prop} (hw : wp_X10_mostOf p1 M Qm) (kk : ∀ (r : Int) (M1 : Mem) (H1 : Heap) (locs1 : List Loc), Qm r M1 → inR r → Rp G e0 α κ B M1 H1 → va_S (fun q => B ≤ q) s.heap H1 locs1 → W p l e R s m args below meth c H1 locs1 cells slots Q (F0 m (pc + 3) ls (.int (Int32.ofInt r) :: rest))) : W p l e R s m args below meth c H locs cells slots Q (F0 m pc ls (.int (Int32.ofInt p1) :: .ref (α 11 0) :: rest)) :=
  sa_callVI 0 (n := 1) (As := [.int (Int32.ofInt p1)]) (rest := rest) X.1 X.2.1 hR hS (m_X10_mostOf X.2.2.1 hp1 hw) k1 kw_1843 kw_57 kw_104 kw_1844 ⟨rfl, by decide +kernel, by decide +kernel, by decide +kernel⟩ (rm_ok hRr hk (by decide)) (rc_11 X hR (okf X.2.2.1 rfl)) rfl rfl hrest hml hd hcel kk
def wp_X10_leftOf_24 (p0 : Int) (Qm : Int → Mem → Prop) : Nat → Int → Int → Mem → Prop
  | 0 => fun _ _ _ => False
  | n + 1 => fun y1 y2 M => ((y2 ≤ 9 → Qm y1 M) ∧ (9 < y2 → (inR (y1 + 1)) ∧ wp_X10_leftOf_24 p0 Qm n (y1 + 1) (Int.tdiv y2 10) M))
def wp_X10_leftOf (p0 : Int) (M : Mem) (Qm : Int → Mem → Prop) : Prop := (p0 < 0 → (inR (-p0)) ∧ True) ∧ (inR (if 0 ≤ p0 then p0 else (-p0))) ∧ (∃ n12 : Nat, wp_X10_leftOf_24 p0 Qm n12 (if 0 ≤ p0 then (1 : Int) else 2) (Int.tdiv (if 0 ≤ p0 then p0 else (-p0)) 100) M)
set_option maxHeartbeats 4000000 in
set_option maxRecDepth 100000 in
theorem t_X10_leftOf_24 {p0 : Int} (X : CX p m c cX10_leftOf 3 s args RX10 G B κ meth (some .int)) (hp0 : inR p0) {Qm : Int → Mem → Prop} : ∀ n : Nat, ∀ y1 : Int, ∀ y2 : Int, ∀ M : Mem, wp_X10_leftOf_24 p0 Qm n y1 y2 M → inR y1 → inR y2 → ∀ (H : Heap) (locs : List Loc), Rp G e0 α κ B M H → va_S (fun q => B ≤ q) s.heap H locs → ∀ (ls : Array Slot), lv_has ls 3 [(1, .int (Int32.ofInt y1)), (2, .int (Int32.ofInt y2))] → WI p l e 0 s m args below meth c G e0 α κ B Qm H locs 24 ls [] := by
  intro n
  induction n with
  | zero =>
    intro y1 y2 M hw hy1 hy2 H locs hR hS ls hl
    exact hw.elim
  | succ n ih =>
    intro y1 y2 M hw hy1 hy2 H locs hR hS ls hl
    have hw : ((y2 ≤ 9 → Qm y1 M) ∧ (9 < y2 → (inR (y1 + 1)) ∧ wp_X10_leftOf_24 p0 Qm n (y1 + 1) (Int.tdiv y2 10) M)) := hw
    refine lv_iload_n X.1.1 X.1.2.1 dX10_leftOf_24 rfl (lv_at hl 1 rfl) ?_
    refine sa_bipush X.1 dX10_leftOf_25 (by decide) ?_
    refine sa_icmp_le (tgt := 41) X.1 hy2 (inR_c (a := 9) rfl) dX10_leftOf_27 (by decide) (fun hc => ?_) (fun hc => ?_)
    · have hw := hw.1 hc
      refine lv_iload_n X.1.1 X.1.2.1 dX10_leftOf_41 rfl (lv_at hl 0 rfl) ?_
      exact sa_iret X.1 X.2.2.2.1 X.2.2.2.2 hR hS hy1 hw dX10_leftOf_42
    · have hw := hw.2 hc
      refine lv_iload_n X.1.1 X.1.2.1 dX10_leftOf_30 rfl (lv_at hl 1 rfl) ?_
      refine sa_bipush X.1 dX10_leftOf_31 (by decide) ?_
      have r10 := inR_tdiv hy2 (inR_c (a := 10) rfl) (by decide)
      refine sa_idiv X.1 hy2 (inR_c (a := 10) rfl) (Int.ne_of_gt (by decide)) dX10_leftOf_33 ?_
      refine lv_istore_n (lv' := [(2, .int (Int32.ofInt (Int.tdiv y2 10))), (1, .int (Int32.ofInt y1))]) X.1.1 X.1.2.1 dX10_leftOf_34 rfl hl (by decide) rfl (fun ls hl => ?_)
      have c11 := hw.1
      have hw := hw.2
      refine lv_iinc (v := Int32.ofInt (y1 + 1)) (lv' := [(1, .int (Int32.ofInt (y1 + 1))), (2, .int (Int32.ofInt (Int.tdiv y2 10)))]) X.1.1 X.1.2.1 dX10_leftOf_35 hl (k := 1) rfl (Int32.ofInt_add _ _).symm (by decide) rfl (fun ls hl => ?_)
      refine lv_goto (tgt := 24) X.1.1 X.1.2.1 dX10_leftOf_38 (by decide) ?_
      exact ih _ _ _ hw c11 r10 _ _ hR hS _ (lv_sub hl [0, 1] rfl)
set_option maxHeartbeats 4000000 in
set_option maxRecDepth 100000 in
theorem t_X10_leftOf {p0 : Int} (X : CX p m c cX10_leftOf 3 s args RX10 G B κ meth (some .int)) (hp0 : inR p0) {M : Mem} {Qm : Int → Mem → Prop} (hw : wp_X10_leftOf p0 M Qm) (H : Heap) (locs : List Loc) (hR : Rp G e0 α κ B M H) (hS : va_S (fun q => B ≤ q) s.heap H locs) (ls : Array Slot) (hl : lv_has ls 3 [(0, .int (Int32.ofInt p0))]) : WI p l e 0 s m args below meth c G e0 α κ B Qm H locs 0 ls [] := by
  have hw : (p0 < 0 → (inR (-p0)) ∧ True) ∧ (inR (if 0 ≤ p0 then p0 else (-p0))) ∧ (∃ n12 : Nat, wp_X10_leftOf_24 p0 Qm n12 (if 0 ≤ p0 then (1 : Int) else 2) (Int.tdiv (if 0 ≤ p0 then p0 else (-p0)) 100) M) := hw
  refine lv_iload_n X.1.1 X.1.2.1 dX10_leftOf_0 rfl (lv_at hl 0 rfl) ?_
  have r1 := inR_ite (c := 0 ≤ p0) (inR_c (a := 1) rfl) (inR_c (a := 2) rfl)
  refine cut_j (A := ∀ v2 : Int, v2 = (if 0 ≤ p0 then (1 : Int) else 2) → WI p l e 0 s m args below meth c G e0 α κ B Qm H locs 9 ls [.int (Int32.ofInt v2)]) (fun J3 => ?_) ?_
  · refine sa_if_ge (tgt := 8) X.1 hp0 dX10_leftOf_1 (by decide) (fun hc => ?_) (fun hc => ?_)
    · skip
      refine sa_const X.1 dX10_leftOf_8 ?_
      exact J3 (1) (if_pos (c := 0 ≤ p0) hc).symm
    · skip
      refine sa_const X.1 dX10_leftOf_4 ?_
      refine lv_goto (tgt := 9) X.1.1 X.1.2.1 dX10_leftOf_5 (by decide) ?_
      exact J3 (2) (if_neg (c := 0 ≤ p0) (Int.not_le.mpr hc)).symm
  intro v2 hv2
  subst hv2
  refine lv_istore_n (lv' := [(1, .int (Int32.ofInt (if 0 ≤ p0 then (1 : Int) else 2))), (0, .int (Int32.ofInt p0))]) X.1.1 X.1.2.1 dX10_leftOf_9 rfl hl (by decide) rfl (fun ls hl => ?_)
  refine lv_iload_n X.1.1 X.1.2.1 dX10_leftOf_10 rfl (lv_at hl 1 rfl) ?_
  have s5 := hw.1
  have hw := hw.2
  have c6 := hw.1
  have hw := hw.2
  refine cut_j (A := ∀ v7 : Int, v7 = (if 0 ≤ p0 then p0 else (-p0)) → WI p l e 0 s m args below meth c G e0 α κ B Qm H locs 20 ls [.int (Int32.ofInt v7)]) (fun J8 => ?_) ?_
  · refine sa_if_ge (tgt := 19) X.1 hp0 dX10_leftOf_11 (by decide) (fun hc => ?_) (fun hc => ?_)
    · skip
      refine lv_iload_n X.1.1 X.1.2.1 dX10_leftOf_19 rfl (lv_at hl 1 rfl) ?_
      exact J8 (p0) (if_pos (c := 0 ≤ p0) hc).symm
    · have hw := s5 hc
      refine lv_iload_n X.1.1 X.1.2.1 dX10_leftOf_14 rfl (lv_at hl 1 rfl) ?_
      have c4 := hw.1
      have hw := hw.2
      refine sa_ineg X.1 dX10_leftOf_15 ?_
      refine lv_goto (tgt := 20) X.1.1 X.1.2.1 dX10_leftOf_16 (by decide) ?_
      exact J8 ((-p0)) (if_neg (c := 0 ≤ p0) (Int.not_le.mpr hc)).symm
  intro v7 hv7
  subst hv7
  refine sa_bipush X.1 dX10_leftOf_20 (by decide) ?_
  have r9 := inR_tdiv c6 (inR_c (a := 100) rfl) (by decide)
  refine sa_idiv X.1 c6 (inR_c (a := 100) rfl) (Int.ne_of_gt (by decide)) dX10_leftOf_22 ?_
  refine lv_istore_n (lv' := [(2, .int (Int32.ofInt (Int.tdiv (if 0 ≤ p0 then p0 else (-p0)) 100))), (1, .int (Int32.ofInt (if 0 ≤ p0 then (1 : Int) else 2))), (0, .int (Int32.ofInt p0))]) X.1.1 X.1.2.1 dX10_leftOf_23 rfl hl (by decide) rfl (fun ls hl => ?_)
  obtain ⟨n12, hw⟩ := hw
  exact t_X10_leftOf_24 X hp0 n12 _ _ _ hw r1 r9 _ _ hR hS _ (lv_sub hl [1, 0] rfl)
theorem m_X10_leftOf {l : Launch} {G : Gx} {e0 : Nat} {α : Ax} {κ : Nat → Int} {B : Nat} {p0 : Int} (hκ : kOK κ) (hp0 : inR p0) {M : Mem} {Qm : Int → Mem → Prop} (hw : wp_X10_leftOf p0 M Qm) : CI l yX10_leftOf (Cond.code yX10_leftOf cX10_leftOf 3 (some .int)) 0 G e0 α κ B [.int (Int32.ofInt p0)] M Qm :=
  CI.mk hκ (by decide +kernel) rfl (Nat.le_of_ble_eq_true rfl) (lv := [(0, .int (Int32.ofInt p0))]) rfl (fun p e s m args below meth c ls X hR hS hl => t_X10_leftOf X hp0 hw _ _ hR hS ls hl)
theorem cs_X10_leftOf {cc : ByteArray} {nL : Nat} {own : String} {ret : Option FieldType} {idx pc : Nat} {p0 : Int} (X : CX p m c cc nL s args own G B κ meth ret) (hp0 : inR p0) {kc : Nat} {R : Room} {cells slots : Nat} (hRr : RmOK R kc) (hcel : cells ≤ R.cells ∧ slots ≤ R.slots) (hk : 0 + 1 ≤ kc) {M : Mem} {H : Heap} {locs : List Loc} (hR : Rp G e0 α κ B M H) (hS : va_S (fun q => B ≤ q) s.heap H locs) (k1 : Cond.methodLink own idx yX10_leftOf ∈ gw) {ls : Array Slot} (hml : ls.size = nL) {rest : List Value} (hd : decode cc pc = .ok (.invokestatic idx, 3)) (hrest : (rest.map fun v => v.category).sum ≤ 8) {Q : State → Prop} {Qm : Int → Mem → Prop} (hw : wp_X10_leftOf p0 M Qm) (kk : ∀ (r : Int) (M1 : Mem) (H1 : Heap) (locs1 : List Loc), Qm r M1 → inR r → Rp G e0 α κ B M1 H1 → va_S (fun q => B ≤ q) s.heap H1 locs1 → W p l e R s m args below meth c H1 locs1 cells slots Q (F0 m (pc + 3) ls (.int (Int32.ofInt r) :: rest))) : W p l e R s m args below meth c H locs cells slots Q (F0 m pc ls (.int (Int32.ofInt p0) :: rest)) :=
  sa_callSI 0 (n := 1) (As := [.int (Int32.ofInt p0)]) (rest := rest) X.1 X.2.1 hR hS (m_X10_leftOf X.2.2.1 hp0 hw) k1 kw_1820 kw_104 kw_1821 ⟨by decide +kernel, by decide +kernel, by decide +kernel⟩ (rm_ok hRr hk (by decide)) rfl rfl hrest hml hd hcel kk
def wp_X10_rightOf (p1 : Int) (M : Mem) (Qm : Int → Mem → Prop) : Prop := (0 ≤ p1 ∧ p1 < 100) ∧ (0 < (M 75 0 p1) → (0 ≤ p1 ∧ p1 < 100) ∧ (inR ((M 75 0 p1) + 1)) ∧ True) ∧ (inR (if (M 75 0 p1) ≤ 0 then (0 : Int) else ((M 75 0 p1) + 1))) ∧ (0 ≤ p1 ∧ p1 < 100) ∧ (inR ((if (M 75 0 p1) ≤ 0 then (0 : Int) else ((M 75 0 p1) + 1)) + (if (M 76 0 p1) ≤ 0 then (0 : Int) else 1))) ∧ Qm ((if (M 75 0 p1) ≤ 0 then (0 : Int) else ((M 75 0 p1) + 1)) + (if (M 76 0 p1) ≤ 0 then (0 : Int) else 1)) M
set_option maxHeartbeats 4000000 in
set_option maxRecDepth 100000 in
theorem t_X10_rightOf {p1 : Int} (X : CX p m c cX10_rightOf 2 s args RX10 G B κ meth (some .int)) (hp1 : inR p1) {M : Mem} {Qm : Int → Mem → Prop} (hw : wp_X10_rightOf p1 M Qm) (H : Heap) (locs : List Loc) (hR : Rp G e0 α κ B M H) (hS : va_S (fun q => B ≤ q) s.heap H locs) (ls : Array Slot) (hl : lv_has ls 2 [(0, .ref (α 11 0)), (1, .int (Int32.ofInt p1))]) : WI p l e 0 s m args below meth c G e0 α κ B Qm H locs 0 ls [] := by
  have hw : (0 ≤ p1 ∧ p1 < 100) ∧ (0 < (M 75 0 p1) → (0 ≤ p1 ∧ p1 < 100) ∧ (inR ((M 75 0 p1) + 1)) ∧ True) ∧ (inR (if (M 75 0 p1) ≤ 0 then (0 : Int) else ((M 75 0 p1) + 1))) ∧ (0 ≤ p1 ∧ p1 < 100) ∧ (inR ((if (M 75 0 p1) ≤ 0 then (0 : Int) else ((M 75 0 p1) + 1)) + (if (M 76 0 p1) ≤ 0 then (0 : Int) else 1))) ∧ Qm ((if (M 75 0 p1) ≤ 0 then (0 : Int) else ((M 75 0 p1) + 1)) + (if (M 76 0 p1) ≤ 0 then (0 : Int) else 1)) M := hw
  refine lv_aload_n X.1.1 X.1.2.1 dX10_rightOf_0 rfl (lv_at hl 0 rfl) ?_
  refine gt_11_22 X hR (okf X.2.2.1 rfl) kw_1551 dX10_rightOf_1 ?_
  refine lv_iload_n X.1.1 X.1.2.1 dX10_rightOf_4 rfl (lv_at hl 1 rfl) ?_
  have c1 := hw.1
  have hw := hw.2
  refine ra_75 X hR (okf X.2.2.1 rfl) c1 dX10_rightOf_5 ?_
  have r2 := hR.r 75 0 p1
  have s5 := hw.1
  have hw := hw.2
  have c6 := hw.1
  have hw := hw.2
  refine cut_j (A := ∀ v7 : Int, v7 = (if (M 75 0 p1) ≤ 0 then (0 : Int) else ((M 75 0 p1) + 1)) → WI p l e 0 s m args below meth c G e0 α κ B Qm H locs 21 ls [.int (Int32.ofInt v7)]) (fun J8 => ?_) ?_
  · refine sa_if_le (tgt := 20) X.1 r2 dX10_rightOf_6 (by decide) (fun hc => ?_) (fun hc => ?_)
    · skip
      refine sa_const X.1 dX10_rightOf_20 ?_
      exact J8 (0) (if_pos (c := (M 75 0 p1) ≤ 0) hc).symm
    · have hw := s5 hc
      refine lv_aload_n X.1.1 X.1.2.1 dX10_rightOf_9 rfl (lv_at hl 0 rfl) ?_
      refine gt_11_22 X hR (okf X.2.2.1 rfl) kw_1551 dX10_rightOf_10 ?_
      refine lv_iload_n X.1.1 X.1.2.1 dX10_rightOf_13 rfl (lv_at hl 1 rfl) ?_
      have c3 := hw.1
      have hw := hw.2
      refine ra_75 X hR (okf X.2.2.1 rfl) c3 dX10_rightOf_14 ?_
      refine sa_const X.1 dX10_rightOf_15 ?_
      have c4 := hw.1
      have hw := hw.2
      refine sa_iadd X.1 dX10_rightOf_16 ?_
      refine lv_goto (tgt := 21) X.1.1 X.1.2.1 dX10_rightOf_17 (by decide) ?_
      exact J8 (((M 75 0 p1) + 1)) (if_neg (c := (M 75 0 p1) ≤ 0) (Int.not_le.mpr hc)).symm
  intro v7 hv7
  subst hv7
  refine lv_aload_n X.1.1 X.1.2.1 dX10_rightOf_21 rfl (lv_at hl 0 rfl) ?_
  refine gt_11_23 X hR (okf X.2.2.1 rfl) kw_1552 dX10_rightOf_22 ?_
  refine lv_iload_n X.1.1 X.1.2.1 dX10_rightOf_25 rfl (lv_at hl 1 rfl) ?_
  have c9 := hw.1
  have hw := hw.2
  refine ra_76 X hR (okf X.2.2.1 rfl) c9 dX10_rightOf_26 ?_
  have r10 := hR.r 76 0 p1
  have r11 := inR_ite (c := (M 76 0 p1) ≤ 0) (inR_c (a := 0) rfl) (inR_c (a := 1) rfl)
  refine cut_j (A := ∀ v12 : Int, v12 = (if (M 76 0 p1) ≤ 0 then (0 : Int) else 1) → WI p l e 0 s m args below meth c G e0 α κ B Qm H locs 35 ls [.int (Int32.ofInt v12), .int (Int32.ofInt (if (M 75 0 p1) ≤ 0 then (0 : Int) else ((M 75 0 p1) + 1)))]) (fun J13 => ?_) ?_
  · refine sa_if_le (tgt := 34) X.1 r10 dX10_rightOf_27 (by decide) (fun hc => ?_) (fun hc => ?_)
    · skip
      refine sa_const X.1 dX10_rightOf_34 ?_
      exact J13 (0) (if_pos (c := (M 76 0 p1) ≤ 0) hc).symm
    · skip
      refine sa_const X.1 dX10_rightOf_30 ?_
      refine lv_goto (tgt := 35) X.1.1 X.1.2.1 dX10_rightOf_31 (by decide) ?_
      exact J13 (1) (if_neg (c := (M 76 0 p1) ≤ 0) (Int.not_le.mpr hc)).symm
  intro v12 hv12
  subst hv12
  have c14 := hw.1
  have hw := hw.2
  refine sa_iadd X.1 dX10_rightOf_35 ?_
  exact sa_iret X.1 X.2.2.2.1 X.2.2.2.2 hR hS c14 hw dX10_rightOf_36
theorem m_X10_rightOf {l : Launch} {G : Gx} {e0 : Nat} {α : Ax} {κ : Nat → Int} {B : Nat} {p1 : Int} (hκ : kOK κ) (hp1 : inR p1) {M : Mem} {Qm : Int → Mem → Prop} (hw : wp_X10_rightOf p1 M Qm) : CI l yX10_rightOf (Cond.code yX10_rightOf cX10_rightOf 2 (some .int)) 0 G e0 α κ B [.ref (α 11 0), .int (Int32.ofInt p1)] M Qm :=
  CI.mk hκ (by decide +kernel) rfl (Nat.le_of_ble_eq_true rfl) (lv := [(0, .ref (α 11 0)), (1, .int (Int32.ofInt p1))]) rfl (fun p e s m args below meth c ls X hR hS hl => t_X10_rightOf X hp1 hw _ _ hR hS ls hl)
theorem cs_X10_rightOf {cc : ByteArray} {nL : Nat} {own : String} {ret : Option FieldType} {idx pc : Nat} {p1 : Int} (X : CX p m c cc nL s args own G B κ meth ret) (hp1 : inR p1) {kc : Nat} {R : Room} {cells slots : Nat} (hRr : RmOK R kc) (hcel : cells ≤ R.cells ∧ slots ≤ R.slots) (hk : 0 + 1 ≤ kc) {M : Mem} {H : Heap} {locs : List Loc} (hR : Rp G e0 α κ B M H) (hS : va_S (fun q => B ≤ q) s.heap H locs) (k1 : Cond.methodLink own idx yX10_rightOf ∈ gw) {ls : Array Slot} (hml : ls.size = nL) {rest : List Value} (hd : decode cc pc = .ok (.invokevirtual idx, 3)) (hrest : (rest.map fun v => v.category).sum ≤ 8) {Q : State → Prop} {Qm : Int → Mem → Prop} (hw : wp_X10_rightOf p1 M Qm) (kk : ∀ (r : Int) (M1 : Mem) (H1 : Heap) (locs1 : List Loc), Qm r M1 → inR r → Rp G e0 α κ B M1 H1 → va_S (fun q => B ≤ q) s.heap H1 locs1 → W p l e R s m args below meth c H1 locs1 cells slots Q (F0 m (pc + 3) ls (.int (Int32.ofInt r) :: rest))) : W p l e R s m args below meth c H locs cells slots Q (F0 m pc ls (.int (Int32.ofInt p1) :: .ref (α 11 0) :: rest)) :=
  sa_callVI 0 (n := 1) (As := [.int (Int32.ofInt p1)]) (rest := rest) X.1 X.2.1 hR hS (m_X10_rightOf X.2.2.1 hp1 hw) k1 kw_1827 kw_53 kw_104 kw_1828 ⟨rfl, by decide +kernel, by decide +kernel, by decide +kernel⟩ (rm_ok hRr hk (by decide)) (rc_11 X hR (okf X.2.2.1 rfl)) rfl rfl hrest hml hd hcel kk
def wp_X10_greater (p0 : Int) (p1 : Int) (M : Mem) (Qm : Int → Mem → Prop) : Prop := Qm (if p0 ≤ p1 then p1 else p0) M
set_option maxHeartbeats 4000000 in
set_option maxRecDepth 100000 in
theorem t_X10_greater {p0 : Int} {p1 : Int} (X : CX p m c cX10_greater 2 s args RX10 G B κ meth (some .int)) (hp0 : inR p0) (hp1 : inR p1) {M : Mem} {Qm : Int → Mem → Prop} (hw : wp_X10_greater p0 p1 M Qm) (H : Heap) (locs : List Loc) (hR : Rp G e0 α κ B M H) (hS : va_S (fun q => B ≤ q) s.heap H locs) (ls : Array Slot) (hl : lv_has ls 2 [(0, .int (Int32.ofInt p0)), (1, .int (Int32.ofInt p1))]) : WI p l e 0 s m args below meth c G e0 α κ B Qm H locs 0 ls [] := by
  have hw : Qm (if p0 ≤ p1 then p1 else p0) M := hw
  refine lv_iload_n X.1.1 X.1.2.1 dX10_greater_0 rfl (lv_at hl 0 rfl) ?_
  refine lv_iload_n X.1.1 X.1.2.1 dX10_greater_1 rfl (lv_at hl 1 rfl) ?_
  have r1 := inR_ite (c := p0 ≤ p1) hp1 hp0
  refine cut_j (A := ∀ v2 : Int, v2 = (if p0 ≤ p1 then p1 else p0) → WI p l e 0 s m args below meth c G e0 α κ B Qm H locs 10 ls [.int (Int32.ofInt v2)]) (fun J3 => ?_) ?_
  · refine sa_icmp_le (tgt := 9) X.1 hp0 hp1 dX10_greater_2 (by decide) (fun hc => ?_) (fun hc => ?_)
    · skip
      refine lv_iload_n X.1.1 X.1.2.1 dX10_greater_9 rfl (lv_at hl 1 rfl) ?_
      exact J3 (p1) (if_pos (c := p0 ≤ p1) hc).symm
    · skip
      refine lv_iload_n X.1.1 X.1.2.1 dX10_greater_5 rfl (lv_at hl 0 rfl) ?_
      refine lv_goto (tgt := 10) X.1.1 X.1.2.1 dX10_greater_6 (by decide) ?_
      exact J3 (p0) (if_neg (c := p0 ≤ p1) (Int.not_le.mpr hc)).symm
  intro v2 hv2
  subst hv2
  exact sa_iret X.1 X.2.2.2.1 X.2.2.2.2 hR hS r1 hw dX10_greater_10
theorem m_X10_greater {l : Launch} {G : Gx} {e0 : Nat} {α : Ax} {κ : Nat → Int} {B : Nat} {p0 : Int} {p1 : Int} (hκ : kOK κ) (hp0 : inR p0) (hp1 : inR p1) {M : Mem} {Qm : Int → Mem → Prop} (hw : wp_X10_greater p0 p1 M Qm) : CI l yX10_greater (Cond.code yX10_greater cX10_greater 2 (some .int)) 0 G e0 α κ B [.int (Int32.ofInt p0), .int (Int32.ofInt p1)] M Qm :=
  CI.mk hκ (by decide +kernel) rfl (Nat.le_of_ble_eq_true rfl) (lv := [(0, .int (Int32.ofInt p0)), (1, .int (Int32.ofInt p1))]) rfl (fun p e s m args below meth c ls X hR hS hl => t_X10_greater X hp0 hp1 hw _ _ hR hS ls hl)
theorem cs_X10_greater {cc : ByteArray} {nL : Nat} {own : String} {ret : Option FieldType} {idx pc : Nat} {p0 : Int} {p1 : Int} (X : CX p m c cc nL s args own G B κ meth ret) (hp0 : inR p0) (hp1 : inR p1) {kc : Nat} {R : Room} {cells slots : Nat} (hRr : RmOK R kc) (hcel : cells ≤ R.cells ∧ slots ≤ R.slots) (hk : 0 + 1 ≤ kc) {M : Mem} {H : Heap} {locs : List Loc} (hR : Rp G e0 α κ B M H) (hS : va_S (fun q => B ≤ q) s.heap H locs) (k1 : Cond.methodLink own idx yX10_greater ∈ gw) {ls : Array Slot} (hml : ls.size = nL) {rest : List Value} (hd : decode cc pc = .ok (.invokestatic idx, 3)) (hrest : (rest.map fun v => v.category).sum ≤ 8) {Q : State → Prop} {Qm : Int → Mem → Prop} (hw : wp_X10_greater p0 p1 M Qm) (kk : ∀ (r : Int) (M1 : Mem) (H1 : Heap) (locs1 : List Loc), Qm r M1 → inR r → Rp G e0 α κ B M1 H1 → va_S (fun q => B ≤ q) s.heap H1 locs1 → W p l e R s m args below meth c H1 locs1 cells slots Q (F0 m (pc + 3) ls (.int (Int32.ofInt r) :: rest))) : W p l e R s m args below meth c H locs cells slots Q (F0 m pc ls (.int (Int32.ofInt p1) :: .int (Int32.ofInt p0) :: rest)) :=
  sa_callSI 0 (n := 2) (As := [.int (Int32.ofInt p0), .int (Int32.ofInt p1)]) (rest := rest) X.1 X.2.1 hR hS (m_X10_greater X.2.2.1 hp0 hp1 hw) k1 kw_1823 kw_104 kw_1824 ⟨by decide +kernel, by decide +kernel, by decide +kernel⟩ (rm_ok hRr hk (by decide)) rfl rfl hrest hml hd hcel kk
def wp_X10_laysFigures_213 (p1 : Int) (Qm : Mem → Prop) (M : Mem) : Prop := Qm M
def wp_X10_laysFigures_167 (p1 : Int) (Qm : Mem → Prop) (K24 : Int → Int → Int → Int → Mem → Prop) (y2 : Int) (y3 : Int) (y4 : Int) (y5 : Int) (M : Mem) : Prop := (inR (y5 + 1)) ∧ K24 y2 y3 y4 (y5 + 1) M
def wp_X10_laysFigures_24 (p1 : Int) (Qm : Mem → Prop) : Nat → Int → Int → Int → Int → Mem → Prop
  | 0 => fun _ _ _ _ _ => False
  | n + 1 => fun y2 y3 y4 y5 M => (((M 11 0 8) ≤ y5 → ((y4 = 0 → wp_X10_laysFigures_213 p1 Qm M) ∧ (¬ y4 = 0 → (0 ≤ p1 ∧ p1 < 6) ∧ (((M 58 0 p1) = 0 → wp_X10_laysFigures_213 p1 Qm M) ∧ (¬ (M 58 0 p1) = 0 → (0 ≤ p1 ∧ p1 < 6) ∧ wp_X10_leftOf y2 M fun (x13 : Int) (M12 : Mem) => wp_X10_leftOf y3 M12 fun (x16 : Int) (M15 : Mem) => wp_X10_greater x13 x16 M15 fun (x19 : Int) (M18 : Mem) => wp_X10_greater (M 80 0 p1) x19 M18 fun (x22 : Int) (M21 : Mem) => (0 ≤ p1 ∧ p1 < 6) ∧ ∀ M25 : Mem, M25 = up M21 80 0 p1 x22 → wp_X10_laysFigures_213 p1 Qm M25))))) ∧ (y5 < (M 11 0 8) → wp_X10_figureOf y5 p1 M fun (x28 : Int) (M27 : Mem) => ((x28 = (-1) → wp_X10_laysFigures_167 p1 Qm (wp_X10_laysFigures_24 p1 Qm n) y2 y3 y4 y5 M27) ∧ (¬ x28 = (-1) → (0 ≤ p1 ∧ p1 < 6) ∧ (0 ≤ x28 ∧ x28 < 100) ∧ wp_X10_leftOf (M27 74 0 x28) M27 fun (x36 : Int) (M35 : Mem) => wp_X10_greater (M27 80 0 p1) x36 M35 fun (x39 : Int) (M38 : Mem) => (0 ≤ p1 ∧ p1 < 6) ∧ ∀ M42 : Mem, M42 = up M38 80 0 p1 x39 → (0 ≤ p1 ∧ p1 < 6) ∧ wp_X10_rightOf x28 M42 fun (x47 : Int) (M46 : Mem) => wp_X10_greater (M42 81 0 p1) x47 M46 fun (x50 : Int) (M49 : Mem) => (0 ≤ p1 ∧ p1 < 6) ∧ ∀ M53 : Mem, M53 = up M49 81 0 p1 x50 → (0 ≤ y5 ∧ y5 < 29) ∧ ((M53 60 0 y5) = 1 → (0 ≤ x28 ∧ x28 < 100) ∧ (0 < (M53 74 0 x28) → (0 ≤ x28 ∧ x28 < 100) ∧ True) ∧ True) ∧ (inR (y2 + (if ¬ (M53 60 0 y5) = 1 then (0 : Int) else (if (M53 74 0 x28) ≤ 0 then (0 : Int) else (M53 74 0 x28))))) ∧ (0 ≤ y5 ∧ y5 < 29) ∧ ((M53 60 0 y5) = 1 → (0 ≤ x28 ∧ x28 < 100) ∧ ((M53 74 0 x28) < 0 → (0 ≤ x28 ∧ x28 < 100) ∧ True) ∧ True) ∧ (inR (y3 + (if ¬ (M53 60 0 y5) = 1 then (0 : Int) else (if 0 ≤ (M53 74 0 x28) then (0 : Int) else (M53 74 0 x28))))) ∧ wp_X10_laysFigures_167 p1 Qm (wp_X10_laysFigures_24 p1 Qm n) (y2 + (if ¬ (M53 60 0 y5) = 1 then (0 : Int) else (if (M53 74 0 x28) ≤ 0 then (0 : Int) else (M53 74 0 x28)))) (y3 + (if ¬ (M53 60 0 y5) = 1 then (0 : Int) else (if 0 ≤ (M53 74 0 x28) then (0 : Int) else (M53 74 0 x28)))) 1 y5 M53))))
def wp_X10_laysFigures (p1 : Int) (M : Mem) (Qm : Mem → Prop) : Prop := (0 ≤ p1 ∧ p1 < 6) ∧ ∀ M2 : Mem, M2 = up M 80 0 p1 0 → (0 ≤ p1 ∧ p1 < 6) ∧ ∀ M5 : Mem, M5 = up M2 81 0 p1 0 → (∃ n79 : Nat, wp_X10_laysFigures_24 p1 Qm n79 0 0 0 0 M5)
set_option maxHeartbeats 4000000 in
set_option maxRecDepth 100000 in
theorem t_X10_laysFigures_213 {p1 : Int} (X : CX p m c cX10_laysFigures 7 s args RX10 G B κ meth none) (hp1 : inR p1) {Qm : Mem → Prop} : ∀ M : Mem, wp_X10_laysFigures_213 p1 Qm M → ∀ (H : Heap) (locs : List Loc), Rp G e0 α κ B M H → va_S (fun q => B ≤ q) s.heap H locs → ∀ (ls : Array Slot), lv_has ls 7 [] → WV p l e 1 s m args below meth c G e0 α κ B Qm H locs 213 ls [] := by
  intro M hw H locs hR hS ls hl
  have hw : Qm M := hw
  exact sa_vret X.1 X.2.2.2.1 X.2.2.2.2 hR hS hw dX10_laysFigures_213
set_option maxHeartbeats 4000000 in
set_option maxRecDepth 100000 in
theorem t_X10_laysFigures_167 {p1 : Int} (X : CX p m c cX10_laysFigures 7 s args RX10 G B κ meth none) (hp1 : inR p1) {Qm : Mem → Prop} {K24 : Int → Int → Int → Int → Mem → Prop} (hK24 : ∀ y2 : Int, ∀ y3 : Int, ∀ y4 : Int, ∀ y5 : Int, ∀ M : Mem, K24 y2 y3 y4 y5 M → inR y2 → inR y3 → inR y4 → inR y5 → ∀ (H : Heap) (locs : List Loc), Rp G e0 α κ B M H → va_S (fun q => B ≤ q) s.heap H locs → ∀ (ls : Array Slot), lv_has ls 7 [(0, .ref (α 11 0)), (1, .int (Int32.ofInt p1)), (2, .int (Int32.ofInt y2)), (3, .int (Int32.ofInt y3)), (4, .int (Int32.ofInt y4)), (5, .int (Int32.ofInt y5))] → WV p l e 1 s m args below meth c G e0 α κ B Qm H locs 24 ls []) : ∀ y2 : Int, ∀ y3 : Int, ∀ y4 : Int, ∀ y5 : Int, ∀ M : Mem, wp_X10_laysFigures_167 p1 Qm K24 y2 y3 y4 y5 M → inR y2 → inR y3 → inR y4 → inR y5 → ∀ (H : Heap) (locs : List Loc), Rp G e0 α κ B M H → va_S (fun q => B ≤ q) s.heap H locs → ∀ (ls : Array Slot), lv_has ls 7 [(0, .ref (α 11 0)), (1, .int (Int32.ofInt p1)), (2, .int (Int32.ofInt y2)), (3, .int (Int32.ofInt y3)), (4, .int (Int32.ofInt y4)), (5, .int (Int32.ofInt y5))] → WV p l e 1 s m args below meth c G e0 α κ B Qm H locs 167 ls [] := by
  intro y2 y3 y4 y5 M hw hy2 hy3 hy4 hy5 H locs hR hS ls hl
  have hw : (inR (y5 + 1)) ∧ K24 y2 y3 y4 (y5 + 1) M := hw
  have c30 := hw.1
  have hw := hw.2
  refine lv_iinc (v := Int32.ofInt (y5 + 1)) (lv' := [(5, .int (Int32.ofInt (y5 + 1))), (0, .ref (α 11 0)), (1, .int (Int32.ofInt p1)), (2, .int (Int32.ofInt y2)), (3, .int (Int32.ofInt y3)), (4, .int (Int32.ofInt y4))]) X.1.1 X.1.2.1 dX10_laysFigures_167 hl (k := 5) rfl (Int32.ofInt_add _ _).symm (by decide) rfl (fun ls hl => ?_)
  refine lv_goto (tgt := 24) X.1.1 X.1.2.1 dX10_laysFigures_170 (by decide) ?_
  exact hK24 _ _ _ _ _ hw hy2 hy3 hy4 c30 _ _ hR hS _ (lv_sub hl [1, 2, 3, 4, 5, 0] rfl)
set_option maxHeartbeats 4000000 in
set_option maxRecDepth 100000 in
theorem t_X10_laysFigures_24 {p1 : Int} (X : CX p m c cX10_laysFigures 7 s args RX10 G B κ meth none) (hp1 : inR p1) {Qm : Mem → Prop} : ∀ n : Nat, ∀ y2 : Int, ∀ y3 : Int, ∀ y4 : Int, ∀ y5 : Int, ∀ M : Mem, wp_X10_laysFigures_24 p1 Qm n y2 y3 y4 y5 M → inR y2 → inR y3 → inR y4 → inR y5 → ∀ (H : Heap) (locs : List Loc), Rp G e0 α κ B M H → va_S (fun q => B ≤ q) s.heap H locs → ∀ (ls : Array Slot), lv_has ls 7 [(0, .ref (α 11 0)), (1, .int (Int32.ofInt p1)), (2, .int (Int32.ofInt y2)), (3, .int (Int32.ofInt y3)), (4, .int (Int32.ofInt y4)), (5, .int (Int32.ofInt y5))] → WV p l e 1 s m args below meth c G e0 α κ B Qm H locs 24 ls [] := by
  intro n
  induction n with
  | zero =>
    intro y2 y3 y4 y5 M hw hy2 hy3 hy4 hy5 H locs hR hS ls hl
    exact hw.elim
  | succ n ih =>
    intro y2 y3 y4 y5 M hw hy2 hy3 hy4 hy5 H locs hR hS ls hl
    have hw : (((M 11 0 8) ≤ y5 → ((y4 = 0 → wp_X10_laysFigures_213 p1 Qm M) ∧ (¬ y4 = 0 → (0 ≤ p1 ∧ p1 < 6) ∧ (((M 58 0 p1) = 0 → wp_X10_laysFigures_213 p1 Qm M) ∧ (¬ (M 58 0 p1) = 0 → (0 ≤ p1 ∧ p1 < 6) ∧ wp_X10_leftOf y2 M fun (x13 : Int) (M12 : Mem) => wp_X10_leftOf y3 M12 fun (x16 : Int) (M15 : Mem) => wp_X10_greater x13 x16 M15 fun (x19 : Int) (M18 : Mem) => wp_X10_greater (M 80 0 p1) x19 M18 fun (x22 : Int) (M21 : Mem) => (0 ≤ p1 ∧ p1 < 6) ∧ ∀ M25 : Mem, M25 = up M21 80 0 p1 x22 → wp_X10_laysFigures_213 p1 Qm M25))))) ∧ (y5 < (M 11 0 8) → wp_X10_figureOf y5 p1 M fun (x28 : Int) (M27 : Mem) => ((x28 = (-1) → wp_X10_laysFigures_167 p1 Qm (wp_X10_laysFigures_24 p1 Qm n) y2 y3 y4 y5 M27) ∧ (¬ x28 = (-1) → (0 ≤ p1 ∧ p1 < 6) ∧ (0 ≤ x28 ∧ x28 < 100) ∧ wp_X10_leftOf (M27 74 0 x28) M27 fun (x36 : Int) (M35 : Mem) => wp_X10_greater (M27 80 0 p1) x36 M35 fun (x39 : Int) (M38 : Mem) => (0 ≤ p1 ∧ p1 < 6) ∧ ∀ M42 : Mem, M42 = up M38 80 0 p1 x39 → (0 ≤ p1 ∧ p1 < 6) ∧ wp_X10_rightOf x28 M42 fun (x47 : Int) (M46 : Mem) => wp_X10_greater (M42 81 0 p1) x47 M46 fun (x50 : Int) (M49 : Mem) => (0 ≤ p1 ∧ p1 < 6) ∧ ∀ M53 : Mem, M53 = up M49 81 0 p1 x50 → (0 ≤ y5 ∧ y5 < 29) ∧ ((M53 60 0 y5) = 1 → (0 ≤ x28 ∧ x28 < 100) ∧ (0 < (M53 74 0 x28) → (0 ≤ x28 ∧ x28 < 100) ∧ True) ∧ True) ∧ (inR (y2 + (if ¬ (M53 60 0 y5) = 1 then (0 : Int) else (if (M53 74 0 x28) ≤ 0 then (0 : Int) else (M53 74 0 x28))))) ∧ (0 ≤ y5 ∧ y5 < 29) ∧ ((M53 60 0 y5) = 1 → (0 ≤ x28 ∧ x28 < 100) ∧ ((M53 74 0 x28) < 0 → (0 ≤ x28 ∧ x28 < 100) ∧ True) ∧ True) ∧ (inR (y3 + (if ¬ (M53 60 0 y5) = 1 then (0 : Int) else (if 0 ≤ (M53 74 0 x28) then (0 : Int) else (M53 74 0 x28))))) ∧ wp_X10_laysFigures_167 p1 Qm (wp_X10_laysFigures_24 p1 Qm n) (y2 + (if ¬ (M53 60 0 y5) = 1 then (0 : Int) else (if (M53 74 0 x28) ≤ 0 then (0 : Int) else (M53 74 0 x28)))) (y3 + (if ¬ (M53 60 0 y5) = 1 then (0 : Int) else (if 0 ≤ (M53 74 0 x28) then (0 : Int) else (M53 74 0 x28)))) 1 y5 M53)))) := hw
    refine lv_iload X.1.1 X.1.2.1 dX10_laysFigures_24 (lv_at hl 5 rfl) ?_
    refine lv_aload_n X.1.1 X.1.2.1 dX10_laysFigures_26 rfl (lv_at hl 0 rfl) ?_
    refine gt_11_8 X hR (okf X.2.2.1 rfl) kw_1537 dX10_laysFigures_27 ?_
    have r7 := hR.r 11 0 8
    refine sa_icmp_ge (tgt := 173) X.1 hy5 r7 dX10_laysFigures_30 (by decide) (fun hc => ?_) (fun hc => ?_)
    · have hw := hw.1 hc
      refine lv_iload X.1.1 X.1.2.1 dX10_laysFigures_173 (lv_at hl 4 rfl) ?_
      refine sa_if_eq (tgt := 213) X.1 hy4 dX10_laysFigures_175 (by decide) (fun hc => ?_) (fun hc => ?_)
      · have hw := hw.1 hc
        exact t_X10_laysFigures_213 X hp1 _ hw _ _ hR hS _ (lv_sub hl [] rfl)
      · have hw := hw.2 hc
        refine lv_aload_n X.1.1 X.1.2.1 dX10_laysFigures_178 rfl (lv_at hl 0 rfl) ?_
        refine gt_11_2 X hR (okf X.2.2.1 rfl) kw_1531 dX10_laysFigures_179 ?_
        refine lv_iload_n X.1.1 X.1.2.1 dX10_laysFigures_182 rfl (lv_at hl 1 rfl) ?_
        have c8 := hw.1
        have hw := hw.2
        refine ra_58 X hR (okf X.2.2.1 rfl) c8 dX10_laysFigures_183 ?_
        have r9 := hR.r 58 0 p1
        refine sa_if_eq (tgt := 213) X.1 r9 dX10_laysFigures_184 (by decide) (fun hc => ?_) (fun hc => ?_)
        · have hw := hw.1 hc
          exact t_X10_laysFigures_213 X hp1 _ hw _ _ hR hS _ (lv_sub hl [] rfl)
        · have hw := hw.2 hc
          refine lv_aload_n X.1.1 X.1.2.1 dX10_laysFigures_187 rfl (lv_at hl 0 rfl) ?_
          refine gt_11_31 X hR (okf X.2.2.1 rfl) kw_1560 dX10_laysFigures_188 ?_
          refine lv_iload_n X.1.1 X.1.2.1 dX10_laysFigures_191 rfl (lv_at hl 1 rfl) ?_
          refine lv_aload_n X.1.1 X.1.2.1 dX10_laysFigures_192 rfl (lv_at hl 0 rfl) ?_
          refine gt_11_31 X hR (okf X.2.2.1 rfl) kw_1560 dX10_laysFigures_193 ?_
          refine lv_iload_n X.1.1 X.1.2.1 dX10_laysFigures_196 rfl (lv_at hl 1 rfl) ?_
          have c10 := hw.1
          have hw := hw.2
          refine ra_80 X hR (okf X.2.2.1 rfl) c10 dX10_laysFigures_197 ?_
          have r11 := hR.r 80 0 p1
          refine lv_iload_n X.1.1 X.1.2.1 dX10_laysFigures_198 rfl (lv_at hl 2 rfl) ?_
          refine cs_X10_leftOf X hy2 (kc := 1) rmL_ok rm_c (by decide) hR hS kw_1819 hl.1 dX10_laysFigures_199 (Nat.le_of_ble_eq_true rfl) hw (fun x13 M12 H locs hw r14 hR hS => ?_)
          refine lv_iload_n X.1.1 X.1.2.1 dX10_laysFigures_202 rfl (lv_at hl 3 rfl) ?_
          refine cs_X10_leftOf X hy3 (kc := 1) rmL_ok rm_c (by decide) hR hS kw_1819 hl.1 dX10_laysFigures_203 (Nat.le_of_ble_eq_true rfl) hw (fun x16 M15 H locs hw r17 hR hS => ?_)
          refine cs_X10_greater X r14 r17 (kc := 1) rmL_ok rm_c (by decide) hR hS kw_1822 hl.1 dX10_laysFigures_206 (Nat.le_of_ble_eq_true rfl) hw (fun x19 M18 H locs hw r20 hR hS => ?_)
          refine cs_X10_greater X r11 r20 (kc := 1) rmL_ok rm_c (by decide) hR hS kw_1822 hl.1 dX10_laysFigures_209 (Nat.le_of_ble_eq_true rfl) hw (fun x22 M21 H locs hw r23 hR hS => ?_)
          have c24 := hw.1
          have hw := hw.2
          refine wa_80 X hR hS (okf X.2.2.1 rfl) c24 r23 dX10_laysFigures_212 (fun H locs hR hS => ?_)
          obtain ⟨M25, e26⟩ : ∃ z : Mem, z = up M21 80 0 p1 x22 := ⟨_, rfl⟩
          rw [← e26] at hR
          have hw := hw M25 e26
          exact t_X10_laysFigures_213 X hp1 _ hw _ _ hR hS _ (lv_sub hl [] rfl)
    · have hw := hw.2 hc
      refine lv_aload_n X.1.1 X.1.2.1 dX10_laysFigures_33 rfl (lv_at hl 0 rfl) ?_
      refine lv_iload X.1.1 X.1.2.1 dX10_laysFigures_34 (lv_at hl 5 rfl) ?_
      refine lv_iload_n X.1.1 X.1.2.1 dX10_laysFigures_36 rfl (lv_at hl 1 rfl) ?_
      refine cs_X10_figureOf X hy5 hp1 (kc := 1) rmL_ok rm_c (by decide) hR hS kw_1803 hl.1 dX10_laysFigures_37 (Nat.le_of_ble_eq_true rfl) hw (fun x28 M27 H locs hw r29 hR hS => ?_)
      refine lv_istore (lv' := [(6, .int (Int32.ofInt x28)), (0, .ref (α 11 0)), (1, .int (Int32.ofInt p1)), (2, .int (Int32.ofInt y2)), (3, .int (Int32.ofInt y3)), (4, .int (Int32.ofInt y4)), (5, .int (Int32.ofInt y5))]) X.1.1 X.1.2.1 dX10_laysFigures_40 hl (by decide) rfl (fun ls hl => ?_)
      refine lv_iload X.1.1 X.1.2.1 dX10_laysFigures_42 (lv_at hl 0 rfl) ?_
      refine sa_const X.1 dX10_laysFigures_44 ?_
      refine sa_icmp_eq (tgt := 167) X.1 r29 (inR_c (a := -1) rfl) dX10_laysFigures_45 (by decide) (fun hc => ?_) (fun hc => ?_)
      · have hw := hw.1 hc
        exact t_X10_laysFigures_167 X hp1 ih _ _ _ _ _ hw hy2 hy3 hy4 hy5 _ _ hR hS _ (lv_sub hl [1, 2, 3, 4, 5, 6] rfl)
      · have hw := hw.2 hc
        refine sa_const X.1 dX10_laysFigures_48 ?_
        refine lv_istore (lv' := [(4, .int (Int32.ofInt 1)), (6, .int (Int32.ofInt x28)), (0, .ref (α 11 0)), (1, .int (Int32.ofInt p1)), (2, .int (Int32.ofInt y2)), (3, .int (Int32.ofInt y3)), (5, .int (Int32.ofInt y5))]) X.1.1 X.1.2.1 dX10_laysFigures_49 hl (by decide) rfl (fun ls hl => ?_)
        refine lv_aload_n X.1.1 X.1.2.1 dX10_laysFigures_51 rfl (lv_at hl 2 rfl) ?_
        refine gt_11_31 X hR (okf X.2.2.1 rfl) kw_1560 dX10_laysFigures_52 ?_
        refine lv_iload_n X.1.1 X.1.2.1 dX10_laysFigures_55 rfl (lv_at hl 3 rfl) ?_
        refine lv_aload_n X.1.1 X.1.2.1 dX10_laysFigures_56 rfl (lv_at hl 2 rfl) ?_
        refine gt_11_31 X hR (okf X.2.2.1 rfl) kw_1560 dX10_laysFigures_57 ?_
        refine lv_iload_n X.1.1 X.1.2.1 dX10_laysFigures_60 rfl (lv_at hl 3 rfl) ?_
        have c31 := hw.1
        have hw := hw.2
        refine ra_80 X hR (okf X.2.2.1 rfl) c31 dX10_laysFigures_61 ?_
        have r32 := hR.r 80 0 p1
        refine lv_aload_n X.1.1 X.1.2.1 dX10_laysFigures_62 rfl (lv_at hl 2 rfl) ?_
        refine gt_11_21 X hR (okf X.2.2.1 rfl) kw_1550 dX10_laysFigures_63 ?_
        refine lv_iload X.1.1 X.1.2.1 dX10_laysFigures_66 (lv_at hl 1 rfl) ?_
        have c33 := hw.1
        have hw := hw.2
        refine ra_74 X hR (okf X.2.2.1 rfl) c33 dX10_laysFigures_68 ?_
        have r34 := hR.r 74 0 x28
        refine cs_X10_leftOf X r34 (kc := 1) rmL_ok rm_c (by decide) hR hS kw_1819 hl.1 dX10_laysFigures_69 (Nat.le_of_ble_eq_true rfl) hw (fun x36 M35 H locs hw r37 hR hS => ?_)
        refine cs_X10_greater X r32 r37 (kc := 1) rmL_ok rm_c (by decide) hR hS kw_1822 hl.1 dX10_laysFigures_72 (Nat.le_of_ble_eq_true rfl) hw (fun x39 M38 H locs hw r40 hR hS => ?_)
        have c41 := hw.1
        have hw := hw.2
        refine wa_80 X hR hS (okf X.2.2.1 rfl) c41 r40 dX10_laysFigures_75 (fun H locs hR hS => ?_)
        obtain ⟨M42, e43⟩ : ∃ z : Mem, z = up M38 80 0 p1 x39 := ⟨_, rfl⟩
        rw [← e43] at hR
        have hw := hw M42 e43
        refine lv_aload_n X.1.1 X.1.2.1 dX10_laysFigures_76 rfl (lv_at hl 2 rfl) ?_
        refine gt_11_32 X hR (okf X.2.2.1 rfl) kw_1561 dX10_laysFigures_77 ?_
        refine lv_iload_n X.1.1 X.1.2.1 dX10_laysFigures_80 rfl (lv_at hl 3 rfl) ?_
        refine lv_aload_n X.1.1 X.1.2.1 dX10_laysFigures_81 rfl (lv_at hl 2 rfl) ?_
        refine gt_11_32 X hR (okf X.2.2.1 rfl) kw_1561 dX10_laysFigures_82 ?_
        refine lv_iload_n X.1.1 X.1.2.1 dX10_laysFigures_85 rfl (lv_at hl 3 rfl) ?_
        have c44 := hw.1
        have hw := hw.2
        refine ra_81 X hR (okf X.2.2.1 rfl) c44 dX10_laysFigures_86 ?_
        have r45 := hR.r 81 0 p1
        refine lv_aload_n X.1.1 X.1.2.1 dX10_laysFigures_87 rfl (lv_at hl 2 rfl) ?_
        refine lv_iload X.1.1 X.1.2.1 dX10_laysFigures_88 (lv_at hl 1 rfl) ?_
        refine cs_X10_rightOf X r29 (kc := 1) rmL_ok rm_c (by decide) hR hS kw_1825 hl.1 dX10_laysFigures_90 (Nat.le_of_ble_eq_true rfl) hw (fun x47 M46 H locs hw r48 hR hS => ?_)
        refine cs_X10_greater X r45 r48 (kc := 1) rmL_ok rm_c (by decide) hR hS kw_1822 hl.1 dX10_laysFigures_93 (Nat.le_of_ble_eq_true rfl) hw (fun x50 M49 H locs hw r51 hR hS => ?_)
        have c52 := hw.1
        have hw := hw.2
        refine wa_81 X hR hS (okf X.2.2.1 rfl) c52 r51 dX10_laysFigures_96 (fun H locs hR hS => ?_)
        obtain ⟨M53, e54⟩ : ∃ z : Mem, z = up M49 81 0 p1 x50 := ⟨_, rfl⟩
        rw [← e54] at hR
        have hw := hw M53 e54
        refine lv_iload_n X.1.1 X.1.2.1 dX10_laysFigures_97 rfl (lv_at hl 4 rfl) ?_
        refine lv_aload_n X.1.1 X.1.2.1 dX10_laysFigures_98 rfl (lv_at hl 2 rfl) ?_
        refine gt_11_5 X hR (okf X.2.2.1 rfl) kw_1534 dX10_laysFigures_99 ?_
        refine lv_iload X.1.1 X.1.2.1 dX10_laysFigures_102 (lv_at hl 6 rfl) ?_
        have c55 := hw.1
        have hw := hw.2
        refine ra_60 X hR (okf X.2.2.1 rfl) c55 dX10_laysFigures_104 ?_
        have r56 := hR.r 60 0 y5
        refine sa_const X.1 dX10_laysFigures_105 ?_
        have s62 := hw.1
        have hw := hw.2
        have r63 := inR_ite (c := ¬ (M53 60 0 y5) = 1) (inR_c (a := 0) rfl) (inR_ite (c := (M53 74 0 x28) ≤ 0) (inR_c (a := 0) rfl) (hR.r 74 0 x28))
        refine cut_j (A := ∀ v64 : Int, v64 = (if ¬ (M53 60 0 y5) = 1 then (0 : Int) else (if (M53 74 0 x28) ≤ 0 then (0 : Int) else (M53 74 0 x28))) → WV p l e 1 s m args below meth c G e0 α κ B Qm H locs 130 ls [.int (Int32.ofInt v64), .int (Int32.ofInt y2)]) (fun J65 => ?_) ?_
        · refine sa_icmp_ne (tgt := 129) X.1 r56 (inR_c (a := 1) rfl) dX10_laysFigures_106 (by decide) (fun hc => ?_) (fun hc => ?_)
          · skip
            refine sa_const X.1 dX10_laysFigures_129 ?_
            exact J65 (0) (if_pos (c := ¬ (M53 60 0 y5) = 1) hc).symm
          · have hw := s62 hc
            refine lv_aload_n X.1.1 X.1.2.1 dX10_laysFigures_109 rfl (lv_at hl 2 rfl) ?_
            refine gt_11_21 X hR (okf X.2.2.1 rfl) kw_1550 dX10_laysFigures_110 ?_
            refine lv_iload X.1.1 X.1.2.1 dX10_laysFigures_113 (lv_at hl 1 rfl) ?_
            have c57 := hw.1
            have hw := hw.2
            refine ra_74 X hR (okf X.2.2.1 rfl) c57 dX10_laysFigures_115 ?_
            have s59 := hw.1
            have hw := hw.2
            refine cut_j (A := ∀ v60 : Int, v60 = (if (M53 74 0 x28) ≤ 0 then (0 : Int) else (M53 74 0 x28)) → WV p l e 1 s m args below meth c G e0 α κ B Qm H locs 130 ls [.int (Int32.ofInt v60), .int (Int32.ofInt y2)]) (fun J61 => ?_) ?_
            · refine sa_if_le (tgt := 129) X.1 (hR.r 74 0 x28) dX10_laysFigures_116 (by decide) (fun hc => ?_) (fun hc => ?_)
              · skip
                refine sa_const X.1 dX10_laysFigures_129 ?_
                exact J61 (0) (if_pos (c := (M53 74 0 x28) ≤ 0) hc).symm
              · have hw := s59 hc
                refine lv_aload_n X.1.1 X.1.2.1 dX10_laysFigures_119 rfl (lv_at hl 2 rfl) ?_
                refine gt_11_21 X hR (okf X.2.2.1 rfl) kw_1550 dX10_laysFigures_120 ?_
                refine lv_iload X.1.1 X.1.2.1 dX10_laysFigures_123 (lv_at hl 1 rfl) ?_
                have c58 := hw.1
                have hw := hw.2
                refine ra_74 X hR (okf X.2.2.1 rfl) c58 dX10_laysFigures_125 ?_
                refine lv_goto (tgt := 130) X.1.1 X.1.2.1 dX10_laysFigures_126 (by decide) ?_
                exact J61 ((M53 74 0 x28)) (if_neg (c := (M53 74 0 x28) ≤ 0) (Int.not_le.mpr hc)).symm
            intro v60 hv60
            subst hv60
            exact J65 ((if (M53 74 0 x28) ≤ 0 then (0 : Int) else (M53 74 0 x28))) (if_neg (c := ¬ (M53 60 0 y5) = 1) (fun z => z hc)).symm
        intro v64 hv64
        subst hv64
        have c66 := hw.1
        have hw := hw.2
        refine sa_iadd X.1 dX10_laysFigures_130 ?_
        refine lv_istore_n (lv' := [(2, .int (Int32.ofInt (y2 + (if ¬ (M53 60 0 y5) = 1 then (0 : Int) else (if (M53 74 0 x28) ≤ 0 then (0 : Int) else (M53 74 0 x28)))))), (4, .int (Int32.ofInt 1)), (6, .int (Int32.ofInt x28)), (0, .ref (α 11 0)), (1, .int (Int32.ofInt p1)), (3, .int (Int32.ofInt y3)), (5, .int (Int32.ofInt y5))]) X.1.1 X.1.2.1 dX10_laysFigures_131 rfl hl (by decide) rfl (fun ls hl => ?_)
        refine lv_iload_n X.1.1 X.1.2.1 dX10_laysFigures_132 rfl (lv_at hl 5 rfl) ?_
        refine lv_aload_n X.1.1 X.1.2.1 dX10_laysFigures_133 rfl (lv_at hl 3 rfl) ?_
        refine gt_11_5 X hR (okf X.2.2.1 rfl) kw_1534 dX10_laysFigures_134 ?_
        refine lv_iload X.1.1 X.1.2.1 dX10_laysFigures_137 (lv_at hl 6 rfl) ?_
        have c67 := hw.1
        have hw := hw.2
        refine ra_60 X hR (okf X.2.2.1 rfl) c67 dX10_laysFigures_139 ?_
        have r68 := hR.r 60 0 y5
        refine sa_const X.1 dX10_laysFigures_140 ?_
        have s74 := hw.1
        have hw := hw.2
        have r75 := inR_ite (c := ¬ (M53 60 0 y5) = 1) (inR_c (a := 0) rfl) (inR_ite (c := 0 ≤ (M53 74 0 x28)) (inR_c (a := 0) rfl) (hR.r 74 0 x28))
        refine cut_j (A := ∀ v76 : Int, v76 = (if ¬ (M53 60 0 y5) = 1 then (0 : Int) else (if 0 ≤ (M53 74 0 x28) then (0 : Int) else (M53 74 0 x28))) → WV p l e 1 s m args below meth c G e0 α κ B Qm H locs 165 ls [.int (Int32.ofInt v76), .int (Int32.ofInt y3)]) (fun J77 => ?_) ?_
        · refine sa_icmp_ne (tgt := 164) X.1 r68 (inR_c (a := 1) rfl) dX10_laysFigures_141 (by decide) (fun hc => ?_) (fun hc => ?_)
          · skip
            refine sa_const X.1 dX10_laysFigures_164 ?_
            exact J77 (0) (if_pos (c := ¬ (M53 60 0 y5) = 1) hc).symm
          · have hw := s74 hc
            refine lv_aload_n X.1.1 X.1.2.1 dX10_laysFigures_144 rfl (lv_at hl 3 rfl) ?_
            refine gt_11_21 X hR (okf X.2.2.1 rfl) kw_1550 dX10_laysFigures_145 ?_
            refine lv_iload X.1.1 X.1.2.1 dX10_laysFigures_148 (lv_at hl 2 rfl) ?_
            have c69 := hw.1
            have hw := hw.2
            refine ra_74 X hR (okf X.2.2.1 rfl) c69 dX10_laysFigures_150 ?_
            have s71 := hw.1
            have hw := hw.2
            refine cut_j (A := ∀ v72 : Int, v72 = (if 0 ≤ (M53 74 0 x28) then (0 : Int) else (M53 74 0 x28)) → WV p l e 1 s m args below meth c G e0 α κ B Qm H locs 165 ls [.int (Int32.ofInt v72), .int (Int32.ofInt y3)]) (fun J73 => ?_) ?_
            · refine sa_if_ge (tgt := 164) X.1 (hR.r 74 0 x28) dX10_laysFigures_151 (by decide) (fun hc => ?_) (fun hc => ?_)
              · skip
                refine sa_const X.1 dX10_laysFigures_164 ?_
                exact J73 (0) (if_pos (c := 0 ≤ (M53 74 0 x28)) hc).symm
              · have hw := s71 hc
                refine lv_aload_n X.1.1 X.1.2.1 dX10_laysFigures_154 rfl (lv_at hl 3 rfl) ?_
                refine gt_11_21 X hR (okf X.2.2.1 rfl) kw_1550 dX10_laysFigures_155 ?_
                refine lv_iload X.1.1 X.1.2.1 dX10_laysFigures_158 (lv_at hl 2 rfl) ?_
                have c70 := hw.1
                have hw := hw.2
                refine ra_74 X hR (okf X.2.2.1 rfl) c70 dX10_laysFigures_160 ?_
                refine lv_goto (tgt := 165) X.1.1 X.1.2.1 dX10_laysFigures_161 (by decide) ?_
                exact J73 ((M53 74 0 x28)) (if_neg (c := 0 ≤ (M53 74 0 x28)) (Int.not_le.mpr hc)).symm
            intro v72 hv72
            subst hv72
            exact J77 ((if 0 ≤ (M53 74 0 x28) then (0 : Int) else (M53 74 0 x28))) (if_neg (c := ¬ (M53 60 0 y5) = 1) (fun z => z hc)).symm
        intro v76 hv76
        subst hv76
        have c78 := hw.1
        have hw := hw.2
        refine sa_iadd X.1 dX10_laysFigures_165 ?_
        refine lv_istore_n (lv' := [(3, .int (Int32.ofInt (y3 + (if ¬ (M53 60 0 y5) = 1 then (0 : Int) else (if 0 ≤ (M53 74 0 x28) then (0 : Int) else (M53 74 0 x28)))))), (2, .int (Int32.ofInt (y2 + (if ¬ (M53 60 0 y5) = 1 then (0 : Int) else (if (M53 74 0 x28) ≤ 0 then (0 : Int) else (M53 74 0 x28)))))), (4, .int (Int32.ofInt 1)), (6, .int (Int32.ofInt x28)), (0, .ref (α 11 0)), (1, .int (Int32.ofInt p1)), (5, .int (Int32.ofInt y5))]) X.1.1 X.1.2.1 dX10_laysFigures_166 rfl hl (by decide) rfl (fun ls hl => ?_)
        exact t_X10_laysFigures_167 X hp1 ih _ _ _ _ _ hw c66 c78 (inR_c (a := 1) rfl) hy5 _ _ hR hS _ (lv_sub hl [4, 5, 1, 0, 2, 6] rfl)
set_option maxHeartbeats 4000000 in
set_option maxRecDepth 100000 in
theorem t_X10_laysFigures {p1 : Int} (X : CX p m c cX10_laysFigures 7 s args RX10 G B κ meth none) (hp1 : inR p1) {M : Mem} {Qm : Mem → Prop} (hw : wp_X10_laysFigures p1 M Qm) (H : Heap) (locs : List Loc) (hR : Rp G e0 α κ B M H) (hS : va_S (fun q => B ≤ q) s.heap H locs) (ls : Array Slot) (hl : lv_has ls 7 [(0, .ref (α 11 0)), (1, .int (Int32.ofInt p1))]) : WV p l e 1 s m args below meth c G e0 α κ B Qm H locs 0 ls [] := by
  have hw : (0 ≤ p1 ∧ p1 < 6) ∧ ∀ M2 : Mem, M2 = up M 80 0 p1 0 → (0 ≤ p1 ∧ p1 < 6) ∧ ∀ M5 : Mem, M5 = up M2 81 0 p1 0 → (∃ n79 : Nat, wp_X10_laysFigures_24 p1 Qm n79 0 0 0 0 M5) := hw
  refine sa_const X.1 dX10_laysFigures_0 ?_
  refine lv_istore_n (lv' := [(2, .int (Int32.ofInt 0)), (0, .ref (α 11 0)), (1, .int (Int32.ofInt p1))]) X.1.1 X.1.2.1 dX10_laysFigures_1 rfl hl (by decide) rfl (fun ls hl => ?_)
  refine sa_const X.1 dX10_laysFigures_2 ?_
  refine lv_istore_n (lv' := [(3, .int (Int32.ofInt 0)), (2, .int (Int32.ofInt 0)), (0, .ref (α 11 0)), (1, .int (Int32.ofInt p1))]) X.1.1 X.1.2.1 dX10_laysFigures_3 rfl hl (by decide) rfl (fun ls hl => ?_)
  refine sa_const X.1 dX10_laysFigures_4 ?_
  refine lv_istore (lv' := [(4, .int (Int32.ofInt 0)), (3, .int (Int32.ofInt 0)), (2, .int (Int32.ofInt 0)), (0, .ref (α 11 0)), (1, .int (Int32.ofInt p1))]) X.1.1 X.1.2.1 dX10_laysFigures_5 hl (by decide) rfl (fun ls hl => ?_)
  refine lv_aload_n X.1.1 X.1.2.1 dX10_laysFigures_7 rfl (lv_at hl 3 rfl) ?_
  refine gt_11_31 X hR (okf X.2.2.1 rfl) kw_1560 dX10_laysFigures_8 ?_
  refine lv_iload_n X.1.1 X.1.2.1 dX10_laysFigures_11 rfl (lv_at hl 4 rfl) ?_
  refine sa_const X.1 dX10_laysFigures_12 ?_
  have c1 := hw.1
  have hw := hw.2
  refine wa_80 X hR hS (okf X.2.2.1 rfl) c1 (inR_c (a := 0) rfl) dX10_laysFigures_13 (fun H locs hR hS => ?_)
  obtain ⟨M2, e3⟩ : ∃ z : Mem, z = up M 80 0 p1 0 := ⟨_, rfl⟩
  rw [← e3] at hR
  have hw := hw M2 e3
  refine lv_aload_n X.1.1 X.1.2.1 dX10_laysFigures_14 rfl (lv_at hl 3 rfl) ?_
  refine gt_11_32 X hR (okf X.2.2.1 rfl) kw_1561 dX10_laysFigures_15 ?_
  refine lv_iload_n X.1.1 X.1.2.1 dX10_laysFigures_18 rfl (lv_at hl 4 rfl) ?_
  refine sa_const X.1 dX10_laysFigures_19 ?_
  have c4 := hw.1
  have hw := hw.2
  refine wa_81 X hR hS (okf X.2.2.1 rfl) c4 (inR_c (a := 0) rfl) dX10_laysFigures_20 (fun H locs hR hS => ?_)
  obtain ⟨M5, e6⟩ : ∃ z : Mem, z = up M2 81 0 p1 0 := ⟨_, rfl⟩
  rw [← e6] at hR
  have hw := hw M5 e6
  refine sa_const X.1 dX10_laysFigures_21 ?_
  refine lv_istore (lv' := [(5, .int (Int32.ofInt 0)), (4, .int (Int32.ofInt 0)), (3, .int (Int32.ofInt 0)), (2, .int (Int32.ofInt 0)), (0, .ref (α 11 0)), (1, .int (Int32.ofInt p1))]) X.1.1 X.1.2.1 dX10_laysFigures_22 hl (by decide) rfl (fun ls hl => ?_)
  obtain ⟨n79, hw⟩ := hw
  exact t_X10_laysFigures_24 X hp1 n79 _ _ _ _ _ hw (inR_c (a := 0) rfl) (inR_c (a := 0) rfl) (inR_c (a := 0) rfl) (inR_c (a := 0) rfl) _ _ hR hS _ (lv_sub hl [4, 5, 3, 2, 1, 0] rfl)
theorem m_X10_laysFigures {l : Launch} {G : Gx} {e0 : Nat} {α : Ax} {κ : Nat → Int} {B : Nat} {p1 : Int} (hκ : kOK κ) (hp1 : inR p1) {M : Mem} {Qm : Mem → Prop} (hw : wp_X10_laysFigures p1 M Qm) : CV l yX10_laysFigures (Cond.code yX10_laysFigures cX10_laysFigures 7 none) 1 G e0 α κ B [.ref (α 11 0), .int (Int32.ofInt p1)] M Qm :=
  CV.mk hκ (by decide +kernel) rfl (Nat.le_of_ble_eq_true rfl) (lv := [(0, .ref (α 11 0)), (1, .int (Int32.ofInt p1))]) rfl (fun p e s m args below meth c ls X hR hS hl => t_X10_laysFigures X hp1 hw _ _ hR hS ls hl)
theorem cs_X10_laysFigures {cc : ByteArray} {nL : Nat} {own : String} {ret : Option FieldType} {idx pc : Nat} {p1 : Int} (X : CX p m c cc nL s args own G B κ meth ret) (hp1 : inR p1) {kc : Nat} {R : Room} {cells slots : Nat} (hRr : RmOK R kc) (hcel : cells ≤ R.cells ∧ slots ≤ R.slots) (hk : 1 + 1 ≤ kc) {M : Mem} {H : Heap} {locs : List Loc} (hR : Rp G e0 α κ B M H) (hS : va_S (fun q => B ≤ q) s.heap H locs) (k1 : Cond.methodLink own idx yX10_laysFigures ∈ gw) {ls : Array Slot} (hml : ls.size = nL) {rest : List Value} (hd : decode cc pc = .ok (.invokevirtual idx, 3)) (hrest : (rest.map fun v => v.category).sum ≤ 8) {Q : State → Prop} {Qm : Mem → Prop} (hw : wp_X10_laysFigures p1 M Qm) (kk : ∀ (M1 : Mem) (H1 : Heap) (locs1 : List Loc), Qm M1 → Rp G e0 α κ B M1 H1 → va_S (fun q => B ≤ q) s.heap H1 locs1 → W p l e R s m args below meth c H1 locs1 cells slots Q (F0 m (pc + 3) ls (rest))) : W p l e R s m args below meth c H locs cells slots Q (F0 m pc ls (.int (Int32.ofInt p1) :: .ref (α 11 0) :: rest)) :=
  sa_callVV 1 (n := 1) (As := [.int (Int32.ofInt p1)]) (rest := rest) X.1 X.2.1 hR hS (m_X10_laysFigures X.2.2.1 hp1 hw) k1 kw_1817 kw_52 kw_104 kw_1818 ⟨rfl, by decide +kernel, by decide +kernel, by decide +kernel⟩ (rm_ok hRr hk (by decide)) (rc_11 X hR (okf X.2.2.1 rfl)) rfl rfl hrest hml hd hcel kk
def wp_X10_across_16 (p1 : Int) (a2 : Nat) (Qm : Int → Mem → Prop) : Nat → Int → Int → Mem → Prop
  | 0 => fun _ _ _ => False
  | n + 1 => fun y3 y4 M => (0 ≤ p1 ∧ p1 < 100) ∧ (0 ≤ p1 ∧ p1 < 100) ∧ (inR ((M 66 0 p1) + (M 68 0 p1))) ∧ ((((M 66 0 p1) + (M 68 0 p1)) ≤ y4 → Qm y3 M) ∧ (y4 < ((M 66 0 p1) + (M 68 0 p1)) → (0 ≤ y4 ∧ y4 < 6) ∧ ((M 59 0 y4) = 0 → (0 ≤ y4 ∧ y4 < 6) ∧ True) ∧ (inR (y3 + (if (M 59 0 y4) = 0 then (M a2 0 y4) else 0))) ∧ (inR (y4 + 1)) ∧ wp_X10_across_16 p1 a2 Qm n (y3 + (if (M 59 0 y4) = 0 then (M a2 0 y4) else 0)) (y4 + 1) M))
def wp_X10_across (p1 : Int) (a2 : Nat) (M : Mem) (Qm : Int → Mem → Prop) : Prop := wp_X10_shows p1 M fun (x2 : Int) (M1 : Mem) => (inR (x2 - 1)) ∧ (0 ≤ p1 ∧ p1 < 100) ∧ (∃ n21 : Nat, wp_X10_across_16 p1 a2 Qm n21 (x2 - 1) (M1 66 0 p1) M1)
set_option maxHeartbeats 4000000 in
set_option maxRecDepth 100000 in
theorem t_X10_across_16 {p1 : Int} {a2 : Nat} (X : CX p m c cX10_across 5 s args RX10 G B κ meth (some .int)) (hp1 : inR p1) (ha2 : A6 a2) (hoa2 : okk κ a2 0) {Qm : Int → Mem → Prop} : ∀ n : Nat, ∀ y3 : Int, ∀ y4 : Int, ∀ M : Mem, wp_X10_across_16 p1 a2 Qm n y3 y4 M → inR y3 → inR y4 → ∀ (H : Heap) (locs : List Loc), Rp G e0 α κ B M H → va_S (fun q => B ≤ q) s.heap H locs → ∀ (ls : Array Slot), lv_has ls 5 [(0, .ref (α 11 0)), (1, .int (Int32.ofInt p1)), (2, .ref (α a2 0)), (3, .int (Int32.ofInt y3)), (4, .int (Int32.ofInt y4))] → WI p l e 1 s m args below meth c G e0 α κ B Qm H locs 16 ls [] := by
  intro n
  induction n with
  | zero =>
    intro y3 y4 M hw hy3 hy4 H locs hR hS ls hl
    exact hw.elim
  | succ n ih =>
    intro y3 y4 M hw hy3 hy4 H locs hR hS ls hl
    have hw : (0 ≤ p1 ∧ p1 < 100) ∧ (0 ≤ p1 ∧ p1 < 100) ∧ (inR ((M 66 0 p1) + (M 68 0 p1))) ∧ ((((M 66 0 p1) + (M 68 0 p1)) ≤ y4 → Qm y3 M) ∧ (y4 < ((M 66 0 p1) + (M 68 0 p1)) → (0 ≤ y4 ∧ y4 < 6) ∧ ((M 59 0 y4) = 0 → (0 ≤ y4 ∧ y4 < 6) ∧ True) ∧ (inR (y3 + (if (M 59 0 y4) = 0 then (M a2 0 y4) else 0))) ∧ (inR (y4 + 1)) ∧ wp_X10_across_16 p1 a2 Qm n (y3 + (if (M 59 0 y4) = 0 then (M a2 0 y4) else 0)) (y4 + 1) M)) := hw
    refine lv_iload X.1.1 X.1.2.1 dX10_across_16 (lv_at hl 4 rfl) ?_
    refine lv_aload_n X.1.1 X.1.2.1 dX10_across_18 rfl (lv_at hl 0 rfl) ?_
    refine gt_11_12 X hR (okf X.2.2.1 rfl) kw_1541 dX10_across_19 ?_
    refine lv_iload_n X.1.1 X.1.2.1 dX10_across_22 rfl (lv_at hl 1 rfl) ?_
    have c7 := hw.1
    have hw := hw.2
    refine ra_66 X hR (okf X.2.2.1 rfl) c7 dX10_across_23 ?_
    have r8 := hR.r 66 0 p1
    refine lv_aload_n X.1.1 X.1.2.1 dX10_across_24 rfl (lv_at hl 0 rfl) ?_
    refine gt_11_14 X hR (okf X.2.2.1 rfl) kw_1543 dX10_across_25 ?_
    refine lv_iload_n X.1.1 X.1.2.1 dX10_across_28 rfl (lv_at hl 1 rfl) ?_
    have c9 := hw.1
    have hw := hw.2
    refine ra_68 X hR (okf X.2.2.1 rfl) c9 dX10_across_29 ?_
    have r10 := hR.r 68 0 p1
    have c11 := hw.1
    have hw := hw.2
    refine sa_iadd X.1 dX10_across_30 ?_
    refine sa_icmp_ge (tgt := 61) X.1 hy4 c11 dX10_across_31 (by decide) (fun hc => ?_) (fun hc => ?_)
    · have hw := hw.1 hc
      refine lv_iload_n X.1.1 X.1.2.1 dX10_across_61 rfl (lv_at hl 3 rfl) ?_
      exact sa_iret X.1 X.2.2.2.1 X.2.2.2.2 hR hS hy3 hw dX10_across_62
    · have hw := hw.2 hc
      refine lv_iload_n X.1.1 X.1.2.1 dX10_across_34 rfl (lv_at hl 3 rfl) ?_
      refine lv_aload_n X.1.1 X.1.2.1 dX10_across_35 rfl (lv_at hl 0 rfl) ?_
      refine gt_11_3 X hR (okf X.2.2.1 rfl) kw_1532 dX10_across_36 ?_
      refine lv_iload X.1.1 X.1.2.1 dX10_across_39 (lv_at hl 4 rfl) ?_
      have c12 := hw.1
      have hw := hw.2
      refine ra_59 X hR (okf X.2.2.1 rfl) c12 dX10_across_41 ?_
      have r13 := hR.r 59 0 y4
      have s15 := hw.1
      have hw := hw.2
      have r16 := inR_ite (c := (M 59 0 y4) = 0) (hR.r a2 0 y4) (inR_c (a := 0) rfl)
      refine cut_j (A := ∀ v17 : Int, v17 = (if (M 59 0 y4) = 0 then (M a2 0 y4) else 0) → WI p l e 1 s m args below meth c G e0 α κ B Qm H locs 53 ls [.int (Int32.ofInt v17), .int (Int32.ofInt y3)]) (fun J18 => ?_) ?_
      · refine sa_if_eq (tgt := 49) X.1 r13 dX10_across_42 (by decide) (fun hc => ?_) (fun hc => ?_)
        · have hw := s15 hc
          refine lv_aload_n X.1.1 X.1.2.1 dX10_across_49 rfl (lv_at hl 2 rfl) ?_
          refine lv_iload X.1.1 X.1.2.1 dX10_across_50 (lv_at hl 4 rfl) ?_
          have c14 := hw.1
          have hw := hw.2
          refine ra_A6 ha2 X hR hoa2 c14 dX10_across_52 ?_
          exact J18 ((M a2 0 y4)) (if_pos (c := (M 59 0 y4) = 0) hc).symm
        · skip
          refine sa_const X.1 dX10_across_45 ?_
          refine lv_goto (tgt := 53) X.1.1 X.1.2.1 dX10_across_46 (by decide) ?_
          exact J18 (0) (if_neg (c := (M 59 0 y4) = 0) hc).symm
      intro v17 hv17
      subst hv17
      have c19 := hw.1
      have hw := hw.2
      refine sa_iadd X.1 dX10_across_53 ?_
      refine lv_istore_n (lv' := [(3, .int (Int32.ofInt (y3 + (if (M 59 0 y4) = 0 then (M a2 0 y4) else 0)))), (0, .ref (α 11 0)), (1, .int (Int32.ofInt p1)), (2, .ref (α a2 0)), (4, .int (Int32.ofInt y4))]) X.1.1 X.1.2.1 dX10_across_54 rfl hl (by decide) rfl (fun ls hl => ?_)
      have c20 := hw.1
      have hw := hw.2
      refine lv_iinc (v := Int32.ofInt (y4 + 1)) (lv' := [(4, .int (Int32.ofInt (y4 + 1))), (3, .int (Int32.ofInt (y3 + (if (M 59 0 y4) = 0 then (M a2 0 y4) else 0)))), (0, .ref (α 11 0)), (1, .int (Int32.ofInt p1)), (2, .ref (α a2 0))]) X.1.1 X.1.2.1 dX10_across_55 hl (k := 4) rfl (Int32.ofInt_add _ _).symm (by decide) rfl (fun ls hl => ?_)
      refine lv_goto (tgt := 16) X.1.1 X.1.2.1 dX10_across_58 (by decide) ?_
      exact ih _ _ _ hw c19 c20 _ _ hR hS _ (lv_sub hl [2, 3, 4, 1, 0] rfl)
set_option maxHeartbeats 4000000 in
set_option maxRecDepth 100000 in
theorem t_X10_across {p1 : Int} {a2 : Nat} (X : CX p m c cX10_across 5 s args RX10 G B κ meth (some .int)) (hp1 : inR p1) (ha2 : A6 a2) (hoa2 : okk κ a2 0) {M : Mem} {Qm : Int → Mem → Prop} (hw : wp_X10_across p1 a2 M Qm) (H : Heap) (locs : List Loc) (hR : Rp G e0 α κ B M H) (hS : va_S (fun q => B ≤ q) s.heap H locs) (ls : Array Slot) (hl : lv_has ls 5 [(0, .ref (α 11 0)), (1, .int (Int32.ofInt p1)), (2, .ref (α a2 0))]) : WI p l e 1 s m args below meth c G e0 α κ B Qm H locs 0 ls [] := by
  have hw : wp_X10_shows p1 M fun (x2 : Int) (M1 : Mem) => (inR (x2 - 1)) ∧ (0 ≤ p1 ∧ p1 < 100) ∧ (∃ n21 : Nat, wp_X10_across_16 p1 a2 Qm n21 (x2 - 1) (M1 66 0 p1) M1) := hw
  refine lv_aload_n X.1.1 X.1.2.1 dX10_across_0 rfl (lv_at hl 0 rfl) ?_
  refine lv_iload_n X.1.1 X.1.2.1 dX10_across_1 rfl (lv_at hl 1 rfl) ?_
  refine cs_X10_shows X hp1 (kc := 1) rmL_ok rm_c (by decide) hR hS kw_1829 hl.1 dX10_across_2 (Nat.le_of_ble_eq_true rfl) hw (fun x2 M1 H locs hw r3 hR hS => ?_)
  refine sa_const X.1 dX10_across_5 ?_
  have c4 := hw.1
  have hw := hw.2
  refine sa_isub X.1 dX10_across_6 ?_
  refine lv_istore_n (lv' := [(3, .int (Int32.ofInt (x2 - 1))), (0, .ref (α 11 0)), (1, .int (Int32.ofInt p1)), (2, .ref (α a2 0))]) X.1.1 X.1.2.1 dX10_across_7 rfl hl (by decide) rfl (fun ls hl => ?_)
  refine lv_aload_n X.1.1 X.1.2.1 dX10_across_8 rfl (lv_at hl 1 rfl) ?_
  refine gt_11_12 X hR (okf X.2.2.1 rfl) kw_1541 dX10_across_9 ?_
  refine lv_iload_n X.1.1 X.1.2.1 dX10_across_12 rfl (lv_at hl 2 rfl) ?_
  have c5 := hw.1
  have hw := hw.2
  refine ra_66 X hR (okf X.2.2.1 rfl) c5 dX10_across_13 ?_
  have r6 := hR.r 66 0 p1
  refine lv_istore (lv' := [(4, .int (Int32.ofInt (M1 66 0 p1))), (3, .int (Int32.ofInt (x2 - 1))), (0, .ref (α 11 0)), (1, .int (Int32.ofInt p1)), (2, .ref (α a2 0))]) X.1.1 X.1.2.1 dX10_across_14 hl (by decide) rfl (fun ls hl => ?_)
  obtain ⟨n21, hw⟩ := hw
  exact t_X10_across_16 X hp1 ha2 hoa2 n21 _ _ _ hw c4 r6 _ _ hR hS _ (lv_sub hl [2, 3, 4, 1, 0] rfl)
theorem m_X10_across {l : Launch} {G : Gx} {e0 : Nat} {α : Ax} {κ : Nat → Int} {B : Nat} {p1 : Int} {a2 : Nat} (hκ : kOK κ) (hp1 : inR p1) (ha2 : A6 a2) (hoa2 : okk κ a2 0) {M : Mem} {Qm : Int → Mem → Prop} (hw : wp_X10_across p1 a2 M Qm) : CI l yX10_across (Cond.code yX10_across cX10_across 5 (some .int)) 1 G e0 α κ B [.ref (α 11 0), .int (Int32.ofInt p1), .ref (α a2 0)] M Qm :=
  CI.mk hκ (by decide +kernel) rfl (Nat.le_of_ble_eq_true rfl) (lv := [(0, .ref (α 11 0)), (1, .int (Int32.ofInt p1)), (2, .ref (α a2 0))]) rfl (fun p e s m args below meth c ls X hR hS hl => t_X10_across X hp1 ha2 hoa2 hw _ _ hR hS ls hl)
theorem cs_X10_across {cc : ByteArray} {nL : Nat} {own : String} {ret : Option FieldType} {idx pc : Nat} {p1 : Int} {a2 : Nat} (X : CX p m c cc nL s args own G B κ meth ret) (hp1 : inR p1) (ha2 : A6 a2) (hoa2 : okk κ a2 0) {kc : Nat} {R : Room} {cells slots : Nat} (hRr : RmOK R kc) (hcel : cells ≤ R.cells ∧ slots ≤ R.slots) (hk : 1 + 1 ≤ kc) {M : Mem} {H : Heap} {locs : List Loc} (hR : Rp G e0 α κ B M H) (hS : va_S (fun q => B ≤ q) s.heap H locs) (k1 : Cond.methodLink own idx yX10_across ∈ gw) {ls : Array Slot} (hml : ls.size = nL) {rest : List Value} (hd : decode cc pc = .ok (.invokevirtual idx, 3)) (hrest : (rest.map fun v => v.category).sum ≤ 8) {Q : State → Prop} {Qm : Int → Mem → Prop} (hw : wp_X10_across p1 a2 M Qm) (kk : ∀ (r : Int) (M1 : Mem) (H1 : Heap) (locs1 : List Loc), Qm r M1 → inR r → Rp G e0 α κ B M1 H1 → va_S (fun q => B ≤ q) s.heap H1 locs1 → W p l e R s m args below meth c H1 locs1 cells slots Q (F0 m (pc + 3) ls (.int (Int32.ofInt r) :: rest))) : W p l e R s m args below meth c H locs cells slots Q (F0 m pc ls (.ref (α a2 0) :: .int (Int32.ofInt p1) :: .ref (α 11 0) :: rest)) :=
  sa_callVI 1 (n := 2) (As := [.int (Int32.ofInt p1), .ref (α a2 0)]) (rest := rest) X.1 X.2.1 hR hS (m_X10_across X.2.2.1 hp1 ha2 hoa2 hw) k1 kw_1851 kw_59 kw_104 kw_1852 ⟨rfl, by decide +kernel, by decide +kernel, by decide +kernel⟩ (rm_ok hRr hk (by decide)) (rc_11 X hR (okf X.2.2.1 rfl)) rfl rfl hrest hml hd hcel kk
def wp_X10_takes_13 (p1 : Int) (a2 : Nat) (Qm : Int → Mem → Prop) : Nat → Int → Int → Int → Mem → Prop
  | 0 => fun _ _ _ _ => False
  | n + 1 => fun y3 y4 y5 M => (0 ≤ p1 ∧ p1 < 100) ∧ (0 ≤ p1 ∧ p1 < 100) ∧ (inR ((M 66 0 p1) + (M 68 0 p1))) ∧ ((((M 66 0 p1) + (M 68 0 p1)) ≤ y5 → Qm (if ¬ y3 = (-1) then y3 else y4) M) ∧ (y5 < ((M 66 0 p1) + (M 68 0 p1)) → (0 ≤ y5 ∧ y5 < 6) ∧ ((M 59 0 y5) = 0 → (0 ≤ y5 ∧ y5 < 6) ∧ (¬ (M 56 0 y5) = 1 → (¬ y3 = (-1) → (0 ≤ y5 ∧ y5 < 6) ∧ (0 ≤ y3 ∧ y3 < 6) ∧ True) ∧ True) ∧ True) ∧ (0 ≤ y5 ∧ y5 < 6) ∧ (inR (y5 + 1)) ∧ wp_X10_takes_13 p1 a2 Qm n (if ¬ (M 59 0 y5) = 0 then y3 else (if (M 56 0 y5) = 1 then y3 else (if y3 = (-1) then y5 else (if (M a2 0 y3) ≤ (M a2 0 y5) then y3 else y5)))) (if (M 59 0 y5) = 0 then y5 else y4) (y5 + 1) M))
def wp_X10_takes (p1 : Int) (a2 : Nat) (M : Mem) (Qm : Int → Mem → Prop) : Prop := (0 ≤ p1 ∧ p1 < 100) ∧ (∃ n34 : Nat, wp_X10_takes_13 p1 a2 Qm n34 (-1) (-1) (M 66 0 p1) M)
set_option maxHeartbeats 4000000 in
set_option maxRecDepth 100000 in
theorem t_X10_takes_13 {p1 : Int} {a2 : Nat} (X : CX p m c cX10_takes 6 s args RX10 G B κ meth (some .int)) (hp1 : inR p1) (ha2 : A6 a2) (hoa2 : okk κ a2 0) {Qm : Int → Mem → Prop} : ∀ n : Nat, ∀ y3 : Int, ∀ y4 : Int, ∀ y5 : Int, ∀ M : Mem, wp_X10_takes_13 p1 a2 Qm n y3 y4 y5 M → inR y3 → inR y4 → inR y5 → ∀ (H : Heap) (locs : List Loc), Rp G e0 α κ B M H → va_S (fun q => B ≤ q) s.heap H locs → ∀ (ls : Array Slot), lv_has ls 6 [(0, .ref (α 11 0)), (1, .int (Int32.ofInt p1)), (2, .ref (α a2 0)), (3, .int (Int32.ofInt y3)), (4, .int (Int32.ofInt y4)), (5, .int (Int32.ofInt y5))] → WI p l e 0 s m args below meth c G e0 α κ B Qm H locs 13 ls [] := by
  intro n
  induction n with
  | zero =>
    intro y3 y4 y5 M hw hy3 hy4 hy5 H locs hR hS ls hl
    exact hw.elim
  | succ n ih =>
    intro y3 y4 y5 M hw hy3 hy4 hy5 H locs hR hS ls hl
    have hw : (0 ≤ p1 ∧ p1 < 100) ∧ (0 ≤ p1 ∧ p1 < 100) ∧ (inR ((M 66 0 p1) + (M 68 0 p1))) ∧ ((((M 66 0 p1) + (M 68 0 p1)) ≤ y5 → Qm (if ¬ y3 = (-1) then y3 else y4) M) ∧ (y5 < ((M 66 0 p1) + (M 68 0 p1)) → (0 ≤ y5 ∧ y5 < 6) ∧ ((M 59 0 y5) = 0 → (0 ≤ y5 ∧ y5 < 6) ∧ (¬ (M 56 0 y5) = 1 → (¬ y3 = (-1) → (0 ≤ y5 ∧ y5 < 6) ∧ (0 ≤ y3 ∧ y3 < 6) ∧ True) ∧ True) ∧ True) ∧ (0 ≤ y5 ∧ y5 < 6) ∧ (inR (y5 + 1)) ∧ wp_X10_takes_13 p1 a2 Qm n (if ¬ (M 59 0 y5) = 0 then y3 else (if (M 56 0 y5) = 1 then y3 else (if y3 = (-1) then y5 else (if (M a2 0 y3) ≤ (M a2 0 y5) then y3 else y5)))) (if (M 59 0 y5) = 0 then y5 else y4) (y5 + 1) M)) := hw
    refine lv_iload X.1.1 X.1.2.1 dX10_takes_13 (lv_at hl 5 rfl) ?_
    refine lv_aload_n X.1.1 X.1.2.1 dX10_takes_15 rfl (lv_at hl 0 rfl) ?_
    refine gt_11_12 X hR (okf X.2.2.1 rfl) kw_1541 dX10_takes_16 ?_
    refine lv_iload_n X.1.1 X.1.2.1 dX10_takes_19 rfl (lv_at hl 1 rfl) ?_
    have c3 := hw.1
    have hw := hw.2
    refine ra_66 X hR (okf X.2.2.1 rfl) c3 dX10_takes_20 ?_
    have r4 := hR.r 66 0 p1
    refine lv_aload_n X.1.1 X.1.2.1 dX10_takes_21 rfl (lv_at hl 0 rfl) ?_
    refine gt_11_14 X hR (okf X.2.2.1 rfl) kw_1543 dX10_takes_22 ?_
    refine lv_iload_n X.1.1 X.1.2.1 dX10_takes_25 rfl (lv_at hl 1 rfl) ?_
    have c5 := hw.1
    have hw := hw.2
    refine ra_68 X hR (okf X.2.2.1 rfl) c5 dX10_takes_26 ?_
    have r6 := hR.r 68 0 p1
    have c7 := hw.1
    have hw := hw.2
    refine sa_iadd X.1 dX10_takes_27 ?_
    refine sa_icmp_ge (tgt := 99) X.1 hy5 c7 dX10_takes_28 (by decide) (fun hc => ?_) (fun hc => ?_)
    · have hw := hw.1 hc
      refine lv_iload_n X.1.1 X.1.2.1 dX10_takes_99 rfl (lv_at hl 3 rfl) ?_
      refine sa_const X.1 dX10_takes_100 ?_
      have r8 := inR_ite (c := ¬ y3 = (-1)) hy3 hy4
      refine cut_j (A := ∀ v9 : Int, v9 = (if ¬ y3 = (-1) then y3 else y4) → WI p l e 0 s m args below meth c G e0 α κ B Qm H locs 110 ls [.int (Int32.ofInt v9)]) (fun J10 => ?_) ?_
      · refine sa_icmp_ne (tgt := 109) X.1 hy3 (inR_c (a := -1) rfl) dX10_takes_101 (by decide) (fun hc => ?_) (fun hc => ?_)
        · skip
          refine lv_iload_n X.1.1 X.1.2.1 dX10_takes_109 rfl (lv_at hl 3 rfl) ?_
          exact J10 (y3) (if_pos (c := ¬ y3 = (-1)) hc).symm
        · skip
          refine lv_iload X.1.1 X.1.2.1 dX10_takes_104 (lv_at hl 4 rfl) ?_
          refine lv_goto (tgt := 110) X.1.1 X.1.2.1 dX10_takes_106 (by decide) ?_
          exact J10 (y4) (if_neg (c := ¬ y3 = (-1)) (fun z => z hc)).symm
      intro v9 hv9
      subst hv9
      exact sa_iret X.1 X.2.2.2.1 X.2.2.2.2 hR hS r8 hw dX10_takes_110
    · have hw := hw.2 hc
      refine lv_aload_n X.1.1 X.1.2.1 dX10_takes_31 rfl (lv_at hl 0 rfl) ?_
      refine gt_11_3 X hR (okf X.2.2.1 rfl) kw_1532 dX10_takes_32 ?_
      refine lv_iload X.1.1 X.1.2.1 dX10_takes_35 (lv_at hl 5 rfl) ?_
      have c11 := hw.1
      have hw := hw.2
      refine ra_59 X hR (okf X.2.2.1 rfl) c11 dX10_takes_37 ?_
      have r12 := hR.r 59 0 y5
      have s24 := hw.1
      have hw := hw.2
      have r25 := inR_ite (c := ¬ (M 59 0 y5) = 0) hy3 (inR_ite (c := (M 56 0 y5) = 1) hy3 (inR_ite (c := y3 = (-1)) hy5 (inR_ite (c := (M a2 0 y3) ≤ (M a2 0 y5)) hy3 hy5)))
      refine cut_j (A := ∀ v26 : Int, v26 = (if ¬ (M 59 0 y5) = 0 then y3 else (if (M 56 0 y5) = 1 then y3 else (if y3 = (-1) then y5 else (if (M a2 0 y3) ≤ (M a2 0 y5) then y3 else y5)))) → WI p l e 0 s m args below meth c G e0 α κ B Qm H locs 73 ls [.int (Int32.ofInt v26)]) (fun J27 => ?_) ?_
      · refine sa_if_ne (tgt := 72) X.1 r12 dX10_takes_38 (by decide) (fun hc => ?_) (fun hc => ?_)
        · skip
          refine lv_iload_n X.1.1 X.1.2.1 dX10_takes_72 rfl (lv_at hl 3 rfl) ?_
          exact J27 (y3) (if_pos (c := ¬ (M 59 0 y5) = 0) hc).symm
        · have hw := s24 hc
          refine lv_aload_n X.1.1 X.1.2.1 dX10_takes_41 rfl (lv_at hl 0 rfl) ?_
          refine gt_11_0 X hR (okf X.2.2.1 rfl) kw_1529 dX10_takes_42 ?_
          refine lv_iload X.1.1 X.1.2.1 dX10_takes_45 (lv_at hl 5 rfl) ?_
          have c13 := hw.1
          have hw := hw.2
          refine ra_56 X hR (okf X.2.2.1 rfl) c13 dX10_takes_47 ?_
          refine sa_const X.1 dX10_takes_48 ?_
          have s21 := hw.1
          have hw := hw.2
          refine cut_j (A := ∀ v22 : Int, v22 = (if (M 56 0 y5) = 1 then y3 else (if y3 = (-1) then y5 else (if (M a2 0 y3) ≤ (M a2 0 y5) then y3 else y5))) → WI p l e 0 s m args below meth c G e0 α κ B Qm H locs 73 ls [.int (Int32.ofInt v22)]) (fun J23 => ?_) ?_
          · refine sa_icmp_eq (tgt := 72) X.1 (hR.r 56 0 y5) (inR_c (a := 1) rfl) dX10_takes_49 (by decide) (fun hc => ?_) (fun hc => ?_)
            · skip
              refine lv_iload_n X.1.1 X.1.2.1 dX10_takes_72 rfl (lv_at hl 3 rfl) ?_
              exact J23 (y3) (if_pos (c := (M 56 0 y5) = 1) hc).symm
            · have hw := s21 hc
              refine lv_iload_n X.1.1 X.1.2.1 dX10_takes_52 rfl (lv_at hl 3 rfl) ?_
              refine sa_const X.1 dX10_takes_53 ?_
              have s18 := hw.1
              have hw := hw.2
              refine cut_j (A := ∀ v19 : Int, v19 = (if y3 = (-1) then y5 else (if (M a2 0 y3) ≤ (M a2 0 y5) then y3 else y5)) → WI p l e 0 s m args below meth c G e0 α κ B Qm H locs 73 ls [.int (Int32.ofInt v19)]) (fun J20 => ?_) ?_
              · refine sa_icmp_eq (tgt := 67) X.1 hy3 (inR_c (a := -1) rfl) dX10_takes_54 (by decide) (fun hc => ?_) (fun hc => ?_)
                · skip
                  refine lv_iload X.1.1 X.1.2.1 dX10_takes_67 (lv_at hl 5 rfl) ?_
                  refine lv_goto (tgt := 73) X.1.1 X.1.2.1 dX10_takes_69 (by decide) ?_
                  exact J20 (y5) (if_pos (c := y3 = (-1)) hc).symm
                · have hw := s18 hc
                  refine lv_aload_n X.1.1 X.1.2.1 dX10_takes_57 rfl (lv_at hl 2 rfl) ?_
                  refine lv_iload X.1.1 X.1.2.1 dX10_takes_58 (lv_at hl 5 rfl) ?_
                  have c14 := hw.1
                  have hw := hw.2
                  refine ra_A6 ha2 X hR hoa2 c14 dX10_takes_60 ?_
                  refine lv_aload_n X.1.1 X.1.2.1 dX10_takes_61 rfl (lv_at hl 2 rfl) ?_
                  refine lv_iload_n X.1.1 X.1.2.1 dX10_takes_62 rfl (lv_at hl 3 rfl) ?_
                  have c15 := hw.1
                  have hw := hw.2
                  refine ra_A6 ha2 X hR hoa2 c15 dX10_takes_63 ?_
                  refine cut_j (A := ∀ v16 : Int, v16 = (if (M a2 0 y3) ≤ (M a2 0 y5) then y3 else y5) → WI p l e 0 s m args below meth c G e0 α κ B Qm H locs 73 ls [.int (Int32.ofInt v16)]) (fun J17 => ?_) ?_
                  · refine sa_icmp_ge (tgt := 72) X.1 (hR.r a2 0 y5) (hR.r a2 0 y3) dX10_takes_64 (by decide) (fun hc => ?_) (fun hc => ?_)
                    · skip
                      refine lv_iload_n X.1.1 X.1.2.1 dX10_takes_72 rfl (lv_at hl 3 rfl) ?_
                      exact J17 (y3) (if_pos (c := (M a2 0 y3) ≤ (M a2 0 y5)) hc).symm
                    · skip
                      refine lv_iload X.1.1 X.1.2.1 dX10_takes_67 (lv_at hl 5 rfl) ?_
                      refine lv_goto (tgt := 73) X.1.1 X.1.2.1 dX10_takes_69 (by decide) ?_
                      exact J17 (y5) (if_neg (c := (M a2 0 y3) ≤ (M a2 0 y5)) (Int.not_le.mpr hc)).symm
                  intro v16 hv16
                  subst hv16
                  exact J20 ((if (M a2 0 y3) ≤ (M a2 0 y5) then y3 else y5)) (if_neg (c := y3 = (-1)) hc).symm
              intro v19 hv19
              subst hv19
              exact J23 ((if y3 = (-1) then y5 else (if (M a2 0 y3) ≤ (M a2 0 y5) then y3 else y5))) (if_neg (c := (M 56 0 y5) = 1) hc).symm
          intro v22 hv22
          subst hv22
          exact J27 ((if (M 56 0 y5) = 1 then y3 else (if y3 = (-1) then y5 else (if (M a2 0 y3) ≤ (M a2 0 y5) then y3 else y5)))) (if_neg (c := ¬ (M 59 0 y5) = 0) (fun z => z hc)).symm
      intro v26 hv26
      subst hv26
      refine lv_istore_n (lv' := [(3, .int (Int32.ofInt (if ¬ (M 59 0 y5) = 0 then y3 else (if (M 56 0 y5) = 1 then y3 else (if y3 = (-1) then y5 else (if (M a2 0 y3) ≤ (M a2 0 y5) then y3 else y5)))))), (0, .ref (α 11 0)), (1, .int (Int32.ofInt p1)), (2, .ref (α a2 0)), (4, .int (Int32.ofInt y4)), (5, .int (Int32.ofInt y5))]) X.1.1 X.1.2.1 dX10_takes_73 rfl hl (by decide) rfl (fun ls hl => ?_)
      refine lv_aload_n X.1.1 X.1.2.1 dX10_takes_74 rfl (lv_at hl 1 rfl) ?_
      refine gt_11_3 X hR (okf X.2.2.1 rfl) kw_1532 dX10_takes_75 ?_
      refine lv_iload X.1.1 X.1.2.1 dX10_takes_78 (lv_at hl 5 rfl) ?_
      have c28 := hw.1
      have hw := hw.2
      refine ra_59 X hR (okf X.2.2.1 rfl) c28 dX10_takes_80 ?_
      have r29 := hR.r 59 0 y5
      have r30 := inR_ite (c := (M 59 0 y5) = 0) hy5 hy4
      refine cut_j (A := ∀ v31 : Int, v31 = (if (M 59 0 y5) = 0 then y5 else y4) → WI p l e 0 s m args below meth c G e0 α κ B Qm H locs 91 ls [.int (Int32.ofInt v31)]) (fun J32 => ?_) ?_
      · refine sa_if_eq (tgt := 89) X.1 r29 dX10_takes_81 (by decide) (fun hc => ?_) (fun hc => ?_)
        · skip
          refine lv_iload X.1.1 X.1.2.1 dX10_takes_89 (lv_at hl 5 rfl) ?_
          exact J32 (y5) (if_pos (c := (M 59 0 y5) = 0) hc).symm
        · skip
          refine lv_iload X.1.1 X.1.2.1 dX10_takes_84 (lv_at hl 4 rfl) ?_
          refine lv_goto (tgt := 91) X.1.1 X.1.2.1 dX10_takes_86 (by decide) ?_
          exact J32 (y4) (if_neg (c := (M 59 0 y5) = 0) hc).symm
      intro v31 hv31
      subst hv31
      refine lv_istore (lv' := [(4, .int (Int32.ofInt (if (M 59 0 y5) = 0 then y5 else y4))), (3, .int (Int32.ofInt (if ¬ (M 59 0 y5) = 0 then y3 else (if (M 56 0 y5) = 1 then y3 else (if y3 = (-1) then y5 else (if (M a2 0 y3) ≤ (M a2 0 y5) then y3 else y5)))))), (0, .ref (α 11 0)), (1, .int (Int32.ofInt p1)), (2, .ref (α a2 0)), (5, .int (Int32.ofInt y5))]) X.1.1 X.1.2.1 dX10_takes_91 hl (by decide) rfl (fun ls hl => ?_)
      have c33 := hw.1
      have hw := hw.2
      refine lv_iinc (v := Int32.ofInt (y5 + 1)) (lv' := [(5, .int (Int32.ofInt (y5 + 1))), (4, .int (Int32.ofInt (if (M 59 0 y5) = 0 then y5 else y4))), (3, .int (Int32.ofInt (if ¬ (M 59 0 y5) = 0 then y3 else (if (M 56 0 y5) = 1 then y3 else (if y3 = (-1) then y5 else (if (M a2 0 y3) ≤ (M a2 0 y5) then y3 else y5)))))), (0, .ref (α 11 0)), (1, .int (Int32.ofInt p1)), (2, .ref (α a2 0))]) X.1.1 X.1.2.1 dX10_takes_93 hl (k := 5) rfl (Int32.ofInt_add _ _).symm (by decide) rfl (fun ls hl => ?_)
      refine lv_goto (tgt := 13) X.1.1 X.1.2.1 dX10_takes_96 (by decide) ?_
      exact ih _ _ _ _ hw r25 r30 c33 _ _ hR hS _ (lv_sub hl [3, 4, 5, 2, 1, 0] rfl)
set_option maxHeartbeats 4000000 in
set_option maxRecDepth 100000 in
theorem t_X10_takes {p1 : Int} {a2 : Nat} (X : CX p m c cX10_takes 6 s args RX10 G B κ meth (some .int)) (hp1 : inR p1) (ha2 : A6 a2) (hoa2 : okk κ a2 0) {M : Mem} {Qm : Int → Mem → Prop} (hw : wp_X10_takes p1 a2 M Qm) (H : Heap) (locs : List Loc) (hR : Rp G e0 α κ B M H) (hS : va_S (fun q => B ≤ q) s.heap H locs) (ls : Array Slot) (hl : lv_has ls 6 [(0, .ref (α 11 0)), (1, .int (Int32.ofInt p1)), (2, .ref (α a2 0))]) : WI p l e 0 s m args below meth c G e0 α κ B Qm H locs 0 ls [] := by
  have hw : (0 ≤ p1 ∧ p1 < 100) ∧ (∃ n34 : Nat, wp_X10_takes_13 p1 a2 Qm n34 (-1) (-1) (M 66 0 p1) M) := hw
  refine sa_const X.1 dX10_takes_0 ?_
  refine lv_istore_n (lv' := [(3, .int (Int32.ofInt (-1))), (0, .ref (α 11 0)), (1, .int (Int32.ofInt p1)), (2, .ref (α a2 0))]) X.1.1 X.1.2.1 dX10_takes_1 rfl hl (by decide) rfl (fun ls hl => ?_)
  refine sa_const X.1 dX10_takes_2 ?_
  refine lv_istore (lv' := [(4, .int (Int32.ofInt (-1))), (3, .int (Int32.ofInt (-1))), (0, .ref (α 11 0)), (1, .int (Int32.ofInt p1)), (2, .ref (α a2 0))]) X.1.1 X.1.2.1 dX10_takes_3 hl (by decide) rfl (fun ls hl => ?_)
  refine lv_aload_n X.1.1 X.1.2.1 dX10_takes_5 rfl (lv_at hl 2 rfl) ?_
  refine gt_11_12 X hR (okf X.2.2.1 rfl) kw_1541 dX10_takes_6 ?_
  refine lv_iload_n X.1.1 X.1.2.1 dX10_takes_9 rfl (lv_at hl 3 rfl) ?_
  have c1 := hw.1
  have hw := hw.2
  refine ra_66 X hR (okf X.2.2.1 rfl) c1 dX10_takes_10 ?_
  have r2 := hR.r 66 0 p1
  refine lv_istore (lv' := [(5, .int (Int32.ofInt (M 66 0 p1))), (4, .int (Int32.ofInt (-1))), (3, .int (Int32.ofInt (-1))), (0, .ref (α 11 0)), (1, .int (Int32.ofInt p1)), (2, .ref (α a2 0))]) X.1.1 X.1.2.1 dX10_takes_11 hl (by decide) rfl (fun ls hl => ?_)
  obtain ⟨n34, hw⟩ := hw
  exact t_X10_takes_13 X hp1 ha2 hoa2 n34 _ _ _ _ hw (inR_c (a := -1) rfl) (inR_c (a := -1) rfl) r2 _ _ hR hS _ (lv_sub hl [3, 4, 5, 2, 1, 0] rfl)
theorem m_X10_takes {l : Launch} {G : Gx} {e0 : Nat} {α : Ax} {κ : Nat → Int} {B : Nat} {p1 : Int} {a2 : Nat} (hκ : kOK κ) (hp1 : inR p1) (ha2 : A6 a2) (hoa2 : okk κ a2 0) {M : Mem} {Qm : Int → Mem → Prop} (hw : wp_X10_takes p1 a2 M Qm) : CI l yX10_takes (Cond.code yX10_takes cX10_takes 6 (some .int)) 0 G e0 α κ B [.ref (α 11 0), .int (Int32.ofInt p1), .ref (α a2 0)] M Qm :=
  CI.mk hκ (by decide +kernel) rfl (Nat.le_of_ble_eq_true rfl) (lv := [(0, .ref (α 11 0)), (1, .int (Int32.ofInt p1)), (2, .ref (α a2 0))]) rfl (fun p e s m args below meth c ls X hR hS hl => t_X10_takes X hp1 ha2 hoa2 hw _ _ hR hS ls hl)
theorem cs_X10_takes {cc : ByteArray} {nL : Nat} {own : String} {ret : Option FieldType} {idx pc : Nat} {p1 : Int} {a2 : Nat} (X : CX p m c cc nL s args own G B κ meth ret) (hp1 : inR p1) (ha2 : A6 a2) (hoa2 : okk κ a2 0) {kc : Nat} {R : Room} {cells slots : Nat} (hRr : RmOK R kc) (hcel : cells ≤ R.cells ∧ slots ≤ R.slots) (hk : 0 + 1 ≤ kc) {M : Mem} {H : Heap} {locs : List Loc} (hR : Rp G e0 α κ B M H) (hS : va_S (fun q => B ≤ q) s.heap H locs) (k1 : Cond.methodLink own idx yX10_takes ∈ gw) {ls : Array Slot} (hml : ls.size = nL) {rest : List Value} (hd : decode cc pc = .ok (.invokevirtual idx, 3)) (hrest : (rest.map fun v => v.category).sum ≤ 8) {Q : State → Prop} {Qm : Int → Mem → Prop} (hw : wp_X10_takes p1 a2 M Qm) (kk : ∀ (r : Int) (M1 : Mem) (H1 : Heap) (locs1 : List Loc), Qm r M1 → inR r → Rp G e0 α κ B M1 H1 → va_S (fun q => B ≤ q) s.heap H1 locs1 → W p l e R s m args below meth c H1 locs1 cells slots Q (F0 m (pc + 3) ls (.int (Int32.ofInt r) :: rest))) : W p l e R s m args below meth c H locs cells slots Q (F0 m pc ls (.ref (α a2 0) :: .int (Int32.ofInt p1) :: .ref (α 11 0) :: rest)) :=
  sa_callVI 0 (n := 2) (As := [.int (Int32.ofInt p1), .ref (α a2 0)]) (rest := rest) X.1 X.2.1 hR hS (m_X10_takes X.2.2.1 hp1 ha2 hoa2 hw) k1 kw_1835 kw_55 kw_104 kw_1836 ⟨rfl, by decide +kernel, by decide +kernel, by decide +kernel⟩ (rm_ok hRr hk (by decide)) (rc_11 X hR (okf X.2.2.1 rfl)) rfl rfl hrest hml hd hcel kk
end
