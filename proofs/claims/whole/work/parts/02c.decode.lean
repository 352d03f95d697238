theorem dX8_notes_15 : decode cX8_notes 15 = .ok (.if_icmp .ge 24, 3) := by decide +kernel
theorem dX8_notes_18 : decode cX8_notes 18 = .ok (.aload_n 0, 1) := by decide +kernel
theorem dX8_notes_19 : decode cX8_notes 19 = .ok (.getfield 16, 3) := by decide +kernel
theorem dX8_notes_22 : decode cX8_notes 22 = .ok (.iload_n 1, 1) := by decide +kernel
theorem dX8_notes_23 : decode cX8_notes 23 = .ok (.aload_n 0, 1) := by decide +kernel
theorem dX8_notes_24 : decode cX8_notes 24 = .ok (.getfield 16, 3) := by decide +kernel
theorem dX8_notes_27 : decode cX8_notes 27 = .ok (.iload_n 1, 1) := by decide +kernel
theorem dX8_notes_28 : decode cX8_notes 28 = .ok (.bipush 101, 2) := by decide +kernel
theorem dX8_notes_30 : decode cX8_notes 30 = .ok (.iadd, 1) := by decide +kernel
theorem dX8_notes_31 : decode cX8_notes 31 = .ok (.iaload, 1) := by decide +kernel
theorem dX8_notes_32 : decode cX8_notes 32 = .ok (.iastore, 1) := by decide +kernel
theorem dX8_notes_33 : decode cX8_notes 33 = .ok (.iinc 1 1, 3) := by decide +kernel
theorem dX8_notes_36 : decode cX8_notes 36 = .ok (.goto (-25), 3) := by decide +kernel
theorem dX8_notes_39 : decode cX8_notes 39 = .ok (.aload_n 0, 1) := by decide +kernel
theorem dX8_notes_40 : decode cX8_notes 40 = .ok (.dup, 1) := by decide +kernel
theorem dX8_notes_41 : decode cX8_notes 41 = .ok (.getfield 107, 3) := by decide +kernel
theorem dX8_notes_44 : decode cX8_notes 44 = .ok (.iconst 1, 1) := by decide +kernel
theorem dX8_notes_45 : decode cX8_notes 45 = .ok (.isub, 1) := by decide +kernel
theorem dX8_notes_46 : decode cX8_notes 46 = .ok (.putfield 107, 3) := by decide +kernel
theorem dX8_notes_49 : decode cX8_notes 49 = .ok (.iconst 0, 1) := by decide +kernel
theorem dX8_notes_50 : decode cX8_notes 50 = .ok (.istore_n 1, 1) := by decide +kernel
theorem dX8_notes_51 : decode cX8_notes 51 = .ok (.iload_n 1, 1) := by decide +kernel
theorem dX8_notes_52 : decode cX8_notes 52 = .ok (.bipush 101, 2) := by decide +kernel
theorem dX8_notes_54 : decode cX8_notes 54 = .ok (.if_icmp .ge 29, 3) := by decide +kernel
theorem dX8_notes_57 : decode cX8_notes 57 = .ok (.aload_n 0, 1) := by decide +kernel
theorem dX8_notes_58 : decode cX8_notes 58 = .ok (.getfield 16, 3) := by decide +kernel
theorem dX8_notes_61 : decode cX8_notes 61 = .ok (.bipush 101, 2) := by decide +kernel
theorem dX8_notes_63 : decode cX8_notes 63 = .ok (.aload_n 0, 1) := by decide +kernel
theorem dX8_notes_64 : decode cX8_notes 64 = .ok (.getfield 107, 3) := by decide +kernel
theorem dX8_notes_67 : decode cX8_notes 67 = .ok (.imul, 1) := by decide +kernel
theorem dX8_notes_68 : decode cX8_notes 68 = .ok (.iload_n 1, 1) := by decide +kernel
theorem dX8_notes_69 : decode cX8_notes 69 = .ok (.iadd, 1) := by decide +kernel
theorem dX8_notes_70 : decode cX8_notes 70 = .ok (.aload_n 0, 1) := by decide +kernel
theorem dX8_notes_71 : decode cX8_notes 71 = .ok (.getfield 7, 3) := by decide +kernel
theorem dX8_notes_74 : decode cX8_notes 74 = .ok (.iload_n 1, 1) := by decide +kernel
theorem dX8_notes_75 : decode cX8_notes 75 = .ok (.iaload, 1) := by decide +kernel
theorem dX8_notes_76 : decode cX8_notes 76 = .ok (.iastore, 1) := by decide +kernel
theorem dX8_notes_77 : decode cX8_notes 77 = .ok (.iinc 1 1, 3) := by decide +kernel
theorem dX8_notes_80 : decode cX8_notes 80 = .ok (.goto (-29), 3) := by decide +kernel
theorem dX8_notes_83 : decode cX8_notes 83 = .ok (.aload_n 0, 1) := by decide +kernel
theorem dX8_notes_84 : decode cX8_notes 84 = .ok (.dup, 1) := by decide +kernel
theorem dX8_notes_85 : decode cX8_notes 85 = .ok (.getfield 107, 3) := by decide +kernel
theorem dX8_notes_88 : decode cX8_notes 88 = .ok (.iconst 1, 1) := by decide +kernel
theorem dX8_notes_89 : decode cX8_notes 89 = .ok (.iadd, 1) := by decide +kernel
theorem dX8_notes_90 : decode cX8_notes 90 = .ok (.putfield 107, 3) := by decide +kernel
theorem dX8_notes_93 : decode cX8_notes 93 = .ok (.return_, 1) := by decide +kernel
theorem dX8_becomes_0 : decode cX8_becomes 0 = .ok (.aload_n 0, 1) := by decide +kernel
theorem dX8_becomes_1 : decode cX8_becomes 1 = .ok (.getfield 7, 3) := by decide +kernel
theorem dX8_becomes_4 : decode cX8_becomes 4 = .ok (.iload_n 1, 1) := by decide +kernel
theorem dX8_becomes_5 : decode cX8_becomes 5 = .ok (.iaload, 1) := by decide +kernel
theorem dX8_becomes_6 : decode cX8_becomes 6 = .ok (.istore_n 3, 1) := by decide +kernel
theorem dX8_becomes_7 : decode cX8_becomes 7 = .ok (.iload_n 3, 1) := by decide +kernel
theorem dX8_becomes_8 : decode cX8_becomes 8 = .ok (.iload_n 2, 1) := by decide +kernel
theorem dX8_becomes_9 : decode cX8_becomes 9 = .ok (.if_icmp .ne 6, 3) := by decide +kernel
theorem dX8_becomes_12 : decode cX8_becomes 12 = .ok (.bipush (-2), 2) := by decide +kernel
theorem dX8_becomes_14 : decode cX8_becomes 14 = .ok (.ireturn, 1) := by decide +kernel
theorem dX8_becomes_15 : decode cX8_becomes 15 = .ok (.aload_n 0, 1) := by decide +kernel
theorem dX8_becomes_16 : decode cX8_becomes 16 = .ok (.invokevirtual 104, 3) := by decide +kernel
theorem dX8_becomes_19 : decode cX8_becomes 19 = .ok (.aload_n 0, 1) := by decide +kernel
theorem dX8_becomes_20 : decode cX8_becomes 20 = .ok (.getfield 7, 3) := by decide +kernel
theorem dX8_becomes_23 : decode cX8_becomes 23 = .ok (.iload_n 1, 1) := by decide +kernel
theorem dX8_becomes_24 : decode cX8_becomes 24 = .ok (.iload_n 2, 1) := by decide +kernel
theorem dX8_becomes_25 : decode cX8_becomes 25 = .ok (.iastore, 1) := by decide +kernel
theorem dX8_becomes_26 : decode cX8_becomes 26 = .ok (.iload_n 3, 1) := by decide +kernel
theorem dX8_becomes_27 : decode cX8_becomes 27 = .ok (.ireturn, 1) := by decide +kernel
theorem dX8_isPlace_0 : decode cX8_isPlace 0 = .ok (.iload_n 1, 1) := by decide +kernel
theorem dX8_isPlace_1 : decode cX8_isPlace 1 = .ok (.iconst 0, 1) := by decide +kernel
theorem dX8_isPlace_2 : decode cX8_isPlace 2 = .ok (.aload_n 0, 1) := by decide +kernel
theorem dX8_isPlace_3 : decode cX8_isPlace 3 = .ok (.getfield 7, 3) := by decide +kernel
theorem dX8_isPlace_6 : decode cX8_isPlace 6 = .ok (.iconst 0, 1) := by decide +kernel
theorem dX8_isPlace_7 : decode cX8_isPlace 7 = .ok (.iaload, 1) := by decide +kernel
theorem dX8_isPlace_8 : decode cX8_isPlace 8 = .ok (.iconst 1, 1) := by decide +kernel
theorem dX8_isPlace_9 : decode cX8_isPlace 9 = .ok (.isub, 1) := by decide +kernel
theorem dX8_isPlace_10 : decode cX8_isPlace 10 = .ok (.invokestatic 56, 3) := by decide +kernel
theorem dX8_isPlace_13 : decode cX8_isPlace 13 = .ok (.ifCond .eq 23, 3) := by decide +kernel
theorem dX8_isPlace_16 : decode cX8_isPlace 16 = .ok (.iload_n 2, 1) := by decide +kernel
theorem dX8_isPlace_17 : decode cX8_isPlace 17 = .ok (.iconst 0, 1) := by decide +kernel
theorem dX8_isPlace_18 : decode cX8_isPlace 18 = .ok (.aload_n 0, 1) := by decide +kernel
theorem dX8_isPlace_19 : decode cX8_isPlace 19 = .ok (.getfield 7, 3) := by decide +kernel
theorem dX8_isPlace_22 : decode cX8_isPlace 22 = .ok (.iconst 1, 1) := by decide +kernel
theorem dX8_isPlace_23 : decode cX8_isPlace 23 = .ok (.iaload, 1) := by decide +kernel
theorem dX8_isPlace_24 : decode cX8_isPlace 24 = .ok (.iconst 1, 1) := by decide +kernel
theorem dX8_isPlace_25 : decode cX8_isPlace 25 = .ok (.isub, 1) := by decide +kernel
theorem dX8_isPlace_26 : decode cX8_isPlace 26 = .ok (.invokestatic 56, 3) := by decide +kernel
theorem dX8_isPlace_29 : decode cX8_isPlace 29 = .ok (.ifCond .eq 7, 3) := by decide +kernel
theorem dX8_isPlace_32 : decode cX8_isPlace 32 = .ok (.iconst 1, 1) := by decide +kernel
theorem dX8_isPlace_33 : decode cX8_isPlace 33 = .ok (.goto 4, 3) := by decide +kernel
theorem dX8_isPlace_36 : decode cX8_isPlace 36 = .ok (.iconst 0, 1) := by decide +kernel
theorem dX8_isPlace_37 : decode cX8_isPlace 37 = .ok (.ireturn, 1) := by decide +kernel
theorem dX8_levels_0 : decode cX8_levels 0 = .ok (.aload_n 0, 1) := by decide +kernel
theorem dX8_levels_1 : decode cX8_levels 1 = .ok (.iconst 0, 1) := by decide +kernel
theorem dX8_levels_2 : decode cX8_levels 2 = .ok (.putfield 52, 3) := by decide +kernel
theorem dX8_levels_5 : decode cX8_levels 5 = .ok (.aload_n 0, 1) := by decide +kernel
theorem dX8_levels_6 : decode cX8_levels 6 = .ok (.iload_n 1, 1) := by decide +kernel
theorem dX8_levels_7 : decode cX8_levels 7 = .ok (.iload_n 2, 1) := by decide +kernel
theorem dX8_levels_8 : decode cX8_levels 8 = .ok (.invokevirtual 110, 3) := by decide +kernel
theorem dX8_levels_11 : decode cX8_levels 11 = .ok (.ifCond .eq 29, 3) := by decide +kernel
theorem dX8_levels_14 : decode cX8_levels 14 = .ok (.iload_n 3, 1) := by decide +kernel
theorem dX8_levels_15 : decode cX8_levels 15 = .ok (.iconst 0, 1) := by decide +kernel
theorem dX8_levels_16 : decode cX8_levels 16 = .ok (.bipush 9, 2) := by decide +kernel
theorem dX8_levels_18 : decode cX8_levels 18 = .ok (.invokestatic 56, 3) := by decide +kernel
theorem dX8_levels_21 : decode cX8_levels 21 = .ok (.ifCond .eq 19, 3) := by decide +kernel
theorem dX8_levels_24 : decode cX8_levels 24 = .ok (.aload_n 0, 1) := by decide +kernel
theorem dX8_levels_25 : decode cX8_levels 25 = .ok (.iconst 5, 1) := by decide +kernel
theorem dX8_levels_26 : decode cX8_levels 26 = .ok (.bipush 12, 2) := by decide +kernel
theorem dX8_levels_28 : decode cX8_levels 28 = .ok (.iload_n 1, 1) := by decide +kernel
theorem dX8_levels_29 : decode cX8_levels 29 = .ok (.imul, 1) := by decide +kernel
theorem dX8_levels_30 : decode cX8_levels 30 = .ok (.iadd, 1) := by decide +kernel
theorem dX8_levels_31 : decode cX8_levels 31 = .ok (.iload_n 2, 1) := by decide +kernel
theorem dX8_levels_32 : decode cX8_levels 32 = .ok (.iadd, 1) := by decide +kernel
theorem dX8_levels_33 : decode cX8_levels 33 = .ok (.iload_n 3, 1) := by decide +kernel
theorem dX8_levels_34 : decode cX8_levels 34 = .ok (.invokevirtual 114, 3) := by decide +kernel
theorem dX8_levels_37 : decode cX8_levels 37 = .ok (.goto 4, 3) := by decide +kernel
theorem dX8_levels_40 : decode cX8_levels 40 = .ok (.iconst (-1), 1) := by decide +kernel
theorem dX8_levels_41 : decode cX8_levels 41 = .ok (.ireturn, 1) := by decide +kernel
theorem dX8_sets_0 : decode cX8_sets 0 = .ok (.aload_n 0, 1) := by decide +kernel
theorem dX8_sets_1 : decode cX8_sets 1 = .ok (.iconst 0, 1) := by decide +kernel
theorem dX8_sets_2 : decode cX8_sets 2 = .ok (.putfield 52, 3) := by decide +kernel
theorem dX8_sets_5 : decode cX8_sets 5 = .ok (.iload_n 1, 1) := by decide +kernel
theorem dX8_sets_6 : decode cX8_sets 6 = .ok (.ifCond .ne 13, 3) := by decide +kernel
theorem dX8_sets_9 : decode cX8_sets 9 = .ok (.iload_n 2, 1) := by decide +kernel
theorem dX8_sets_10 : decode cX8_sets 10 = .ok (.iconst 1, 1) := by decide +kernel
theorem dX8_sets_11 : decode cX8_sets 11 = .ok (.bipush 9, 2) := by decide +kernel
theorem dX8_sets_13 : decode cX8_sets 13 = .ok (.invokestatic 56, 3) := by decide +kernel
theorem dX8_sets_16 : decode cX8_sets 16 = .ok (.goto 38, 3) := by decide +kernel
theorem dX8_sets_19 : decode cX8_sets 19 = .ok (.iload_n 1, 1) := by decide +kernel
theorem dX8_sets_20 : decode cX8_sets 20 = .ok (.iconst 1, 1) := by decide +kernel
theorem dX8_sets_21 : decode cX8_sets 21 = .ok (.if_icmp .ne 13, 3) := by decide +kernel
theorem dX8_sets_24 : decode cX8_sets 24 = .ok (.iload_n 2, 1) := by decide +kernel
theorem dX8_sets_25 : decode cX8_sets 25 = .ok (.iconst 0, 1) := by decide +kernel
theorem dX8_sets_26 : decode cX8_sets 26 = .ok (.bipush 20, 2) := by decide +kernel
theorem dX8_sets_28 : decode cX8_sets 28 = .ok (.invokestatic 56, 3) := by decide +kernel
theorem dX8_sets_31 : decode cX8_sets 31 = .ok (.goto 23, 3) := by decide +kernel
theorem dX8_sets_34 : decode cX8_sets 34 = .ok (.iload_n 1, 1) := by decide +kernel
theorem dX8_sets_35 : decode cX8_sets 35 = .ok (.iconst 2, 1) := by decide +kernel
theorem dX8_sets_36 : decode cX8_sets 36 = .ok (.if_icmp .ne 17, 3) := by decide +kernel
theorem dX8_sets_39 : decode cX8_sets 39 = .ok (.iload_n 2, 1) := by decide +kernel
theorem dX8_sets_40 : decode cX8_sets 40 = .ok (.iconst 1, 1) := by decide +kernel
theorem dX8_sets_41 : decode cX8_sets 41 = .ok (.bipush 8, 2) := by decide +kernel
theorem dX8_sets_43 : decode cX8_sets 43 = .ok (.invokestatic 56, 3) := by decide +kernel
theorem dX8_sets_46 : decode cX8_sets 46 = .ok (.ifCond .eq 7, 3) := by decide +kernel
theorem dX8_sets_49 : decode cX8_sets 49 = .ok (.iconst 1, 1) := by decide +kernel
theorem dX8_sets_50 : decode cX8_sets 50 = .ok (.goto 4, 3) := by decide +kernel
theorem dX8_sets_53 : decode cX8_sets 53 = .ok (.iconst 0, 1) := by decide +kernel
theorem dX8_sets_54 : decode cX8_sets 54 = .ok (.istore_n 3, 1) := by decide +kernel
theorem dX8_sets_55 : decode cX8_sets 55 = .ok (.iload_n 3, 1) := by decide +kernel
theorem dX8_sets_56 : decode cX8_sets 56 = .ok (.ifCond .eq 14, 3) := by decide +kernel
theorem dX8_sets_59 : decode cX8_sets 59 = .ok (.aload_n 0, 1) := by decide +kernel
theorem dX8_sets_60 : decode cX8_sets 60 = .ok (.iconst 2, 1) := by decide +kernel
theorem dX8_sets_61 : decode cX8_sets 61 = .ok (.iload_n 1, 1) := by decide +kernel
theorem dX8_sets_62 : decode cX8_sets 62 = .ok (.iadd, 1) := by decide +kernel
theorem dX8_sets_63 : decode cX8_sets 63 = .ok (.iload_n 2, 1) := by decide +kernel
theorem dX8_sets_64 : decode cX8_sets 64 = .ok (.invokevirtual 114, 3) := by decide +kernel
theorem dX8_sets_67 : decode cX8_sets 67 = .ok (.goto 4, 3) := by decide +kernel
theorem dX8_sets_70 : decode cX8_sets 70 = .ok (.iconst (-1), 1) := by decide +kernel
theorem dX8_sets_71 : decode cX8_sets 71 = .ok (.ireturn, 1) := by decide +kernel
theorem dX8_undo_0 : decode cX8_undo 0 = .ok (.aload_n 0, 1) := by decide +kernel
theorem dX8_undo_1 : decode cX8_undo 1 = .ok (.iconst 0, 1) := by decide +kernel
theorem dX8_undo_2 : decode cX8_undo 2 = .ok (.putfield 52, 3) := by decide +kernel
theorem dX8_undo_5 : decode cX8_undo 5 = .ok (.aload_n 0, 1) := by decide +kernel
theorem dX8_undo_6 : decode cX8_undo 6 = .ok (.getfield 107, 3) := by decide +kernel
theorem dX8_undo_9 : decode cX8_undo 9 = .ok (.ifCond .ne 6, 3) := by decide +kernel
theorem dX8_undo_12 : decode cX8_undo 12 = .ok (.bipush (-2), 2) := by decide +kernel
theorem dX8_undo_14 : decode cX8_undo 14 = .ok (.ireturn, 1) := by decide +kernel
theorem dX8_undo_15 : decode cX8_undo 15 = .ok (.aload_n 0, 1) := by decide +kernel
theorem dX8_undo_16 : decode cX8_undo 16 = .ok (.dup, 1) := by decide +kernel
theorem dX8_undo_17 : decode cX8_undo 17 = .ok (.getfield 107, 3) := by decide +kernel
theorem dX8_undo_20 : decode cX8_undo 20 = .ok (.iconst 1, 1) := by decide +kernel
theorem dX8_undo_21 : decode cX8_undo 21 = .ok (.isub, 1) := by decide +kernel
theorem dX8_undo_22 : decode cX8_undo 22 = .ok (.putfield 107, 3) := by decide +kernel
theorem dX8_undo_25 : decode cX8_undo 25 = .ok (.iconst 0, 1) := by decide +kernel
theorem dX8_undo_26 : decode cX8_undo 26 = .ok (.istore_n 1, 1) := by decide +kernel
theorem dX8_undo_27 : decode cX8_undo 27 = .ok (.iload_n 1, 1) := by decide +kernel
theorem dX8_undo_28 : decode cX8_undo 28 = .ok (.bipush 101, 2) := by decide +kernel
theorem dX8_undo_30 : decode cX8_undo 30 = .ok (.if_icmp .ge 29, 3) := by decide +kernel
theorem dX8_undo_33 : decode cX8_undo 33 = .ok (.aload_n 0, 1) := by decide +kernel
theorem dX8_undo_34 : decode cX8_undo 34 = .ok (.getfield 7, 3) := by decide +kernel
theorem dX8_undo_37 : decode cX8_undo 37 = .ok (.iload_n 1, 1) := by decide +kernel
theorem dX8_undo_38 : decode cX8_undo 38 = .ok (.aload_n 0, 1) := by decide +kernel
theorem dX8_undo_39 : decode cX8_undo 39 = .ok (.getfield 16, 3) := by decide +kernel
theorem dX8_undo_42 : decode cX8_undo 42 = .ok (.bipush 101, 2) := by decide +kernel
theorem dX8_undo_44 : decode cX8_undo 44 = .ok (.aload_n 0, 1) := by decide +kernel
theorem dX8_undo_45 : decode cX8_undo 45 = .ok (.getfield 107, 3) := by decide +kernel
theorem dX8_undo_48 : decode cX8_undo 48 = .ok (.imul, 1) := by decide +kernel
theorem dX8_undo_49 : decode cX8_undo 49 = .ok (.iload_n 1, 1) := by decide +kernel
theorem dX8_undo_50 : decode cX8_undo 50 = .ok (.iadd, 1) := by decide +kernel
theorem dX8_undo_51 : decode cX8_undo 51 = .ok (.iaload, 1) := by decide +kernel
theorem dX8_undo_52 : decode cX8_undo 52 = .ok (.iastore, 1) := by decide +kernel
theorem dX8_undo_53 : decode cX8_undo 53 = .ok (.iinc 1 1, 3) := by decide +kernel
theorem dX8_undo_56 : decode cX8_undo 56 = .ok (.goto (-29), 3) := by decide +kernel
theorem dX8_undo_59 : decode cX8_undo 59 = .ok (.aload_n 0, 1) := by decide +kernel
theorem dX8_undo_60 : decode cX8_undo 60 = .ok (.getfield 107, 3) := by decide +kernel
theorem dX8_undo_63 : decode cX8_undo 63 = .ok (.ireturn, 1) := by decide +kernel
theorem dX8_levelAt_0 : decode cX8_levelAt 0 = .ok (.iload_n 2, 1) := by decide +kernel
theorem dX8_levelAt_1 : decode cX8_levelAt 1 = .ok (.iconst 0, 1) := by decide +kernel
theorem dX8_levelAt_2 : decode cX8_levelAt 2 = .ok (.aload_n 0, 1) := by decide +kernel
theorem dX8_levelAt_3 : decode cX8_levelAt 3 = .ok (.getfield 7, 3) := by decide +kernel
theorem dX8_levelAt_6 : decode cX8_levelAt 6 = .ok (.iconst 1, 1) := by decide +kernel
theorem dX8_levelAt_7 : decode cX8_levelAt 7 = .ok (.iaload, 1) := by decide +kernel
theorem dX8_levelAt_8 : decode cX8_levelAt 8 = .ok (.iconst 1, 1) := by decide +kernel
theorem dX8_levelAt_9 : decode cX8_levelAt 9 = .ok (.isub, 1) := by decide +kernel
theorem dX8_levelAt_10 : decode cX8_levelAt 10 = .ok (.invokestatic 56, 3) := by decide +kernel
theorem dX8_levelAt_13 : decode cX8_levelAt 13 = .ok (.ifCond .eq 19, 3) := by decide +kernel
theorem dX8_levelAt_16 : decode cX8_levelAt 16 = .ok (.aload_n 0, 1) := by decide +kernel
theorem dX8_levelAt_17 : decode cX8_levelAt 17 = .ok (.getfield 7, 3) := by decide +kernel
theorem dX8_levelAt_20 : decode cX8_levelAt 20 = .ok (.iconst 5, 1) := by decide +kernel
theorem dX8_levelAt_21 : decode cX8_levelAt 21 = .ok (.bipush 12, 2) := by decide +kernel
theorem dX8_levelAt_23 : decode cX8_levelAt 23 = .ok (.iload_n 1, 1) := by decide +kernel
theorem dX8_levelAt_24 : decode cX8_levelAt 24 = .ok (.imul, 1) := by decide +kernel
theorem dX8_levelAt_25 : decode cX8_levelAt 25 = .ok (.iadd, 1) := by decide +kernel
theorem dX8_levelAt_26 : decode cX8_levelAt 26 = .ok (.iload_n 2, 1) := by decide +kernel
theorem dX8_levelAt_27 : decode cX8_levelAt 27 = .ok (.iadd, 1) := by decide +kernel
theorem dX8_levelAt_28 : decode cX8_levelAt 28 = .ok (.iaload, 1) := by decide +kernel
theorem dX8_levelAt_29 : decode cX8_levelAt 29 = .ok (.goto 4, 3) := by decide +kernel
theorem dX8_levelAt_32 : decode cX8_levelAt 32 = .ok (.iconst 0, 1) := by decide +kernel
theorem dX8_levelAt_33 : decode cX8_levelAt 33 = .ok (.ireturn, 1) := by decide +kernel
theorem dX8_laysPeaks_0 : decode cX8_laysPeaks 0 = .ok (.iconst 0, 1) := by decide +kernel
theorem dX8_laysPeaks_1 : decode cX8_laysPeaks 1 = .ok (.istore_n 1, 1) := by decide +kernel
theorem dX8_laysPeaks_2 : decode cX8_laysPeaks 2 = .ok (.iload_n 1, 1) := by decide +kernel
theorem dX8_laysPeaks_3 : decode cX8_laysPeaks 3 = .ok (.aload_n 0, 1) := by decide +kernel
theorem dX8_laysPeaks_4 : decode cX8_laysPeaks 4 = .ok (.getfield 7, 3) := by decide +kernel
theorem dX8_laysPeaks_7 : decode cX8_laysPeaks 7 = .ok (.iconst 0, 1) := by decide +kernel
theorem dX8_laysPeaks_8 : decode cX8_laysPeaks 8 = .ok (.iaload, 1) := by decide +kernel
theorem dX8_laysPeaks_9 : decode cX8_laysPeaks 9 = .ok (.if_icmp .ge 102, 3) := by decide +kernel
theorem dX8_laysPeaks_12 : decode cX8_laysPeaks 12 = .ok (.aload_n 0, 1) := by decide +kernel
theorem dX8_laysPeaks_13 : decode cX8_laysPeaks 13 = .ok (.getfield 33, 3) := by decide +kernel
theorem dX8_laysPeaks_16 : decode cX8_laysPeaks 16 = .ok (.iload_n 1, 1) := by decide +kernel
theorem dX8_laysPeaks_17 : decode cX8_laysPeaks 17 = .ok (.iconst 0, 1) := by decide +kernel
theorem dX8_laysPeaks_18 : decode cX8_laysPeaks 18 = .ok (.iastore, 1) := by decide +kernel
theorem dX8_laysPeaks_19 : decode cX8_laysPeaks 19 = .ok (.iconst 0, 1) := by decide +kernel
theorem dX8_laysPeaks_20 : decode cX8_laysPeaks 20 = .ok (.istore_n 2, 1) := by decide +kernel
theorem dX8_laysPeaks_21 : decode cX8_laysPeaks 21 = .ok (.iload_n 2, 1) := by decide +kernel
theorem dX8_laysPeaks_22 : decode cX8_laysPeaks 22 = .ok (.aload_n 0, 1) := by decide +kernel
theorem dX8_laysPeaks_23 : decode cX8_laysPeaks 23 = .ok (.getfield 7, 3) := by decide +kernel
theorem dX8_laysPeaks_26 : decode cX8_laysPeaks 26 = .ok (.iconst 1, 1) := by decide +kernel
theorem dX8_laysPeaks_27 : decode cX8_laysPeaks 27 = .ok (.iaload, 1) := by decide +kernel
theorem dX8_laysPeaks_28 : decode cX8_laysPeaks 28 = .ok (.if_icmp .ge 77, 3) := by decide +kernel
theorem dX8_laysPeaks_31 : decode cX8_laysPeaks 31 = .ok (.aload_n 0, 1) := by decide +kernel
theorem dX8_laysPeaks_32 : decode cX8_laysPeaks 32 = .ok (.iload_n 1, 1) := by decide +kernel
theorem dX8_laysPeaks_33 : decode cX8_laysPeaks 33 = .ok (.iload_n 2, 1) := by decide +kernel
theorem dX8_laysPeaks_34 : decode cX8_laysPeaks 34 = .ok (.invokevirtual 118, 3) := by decide +kernel
theorem dX8_laysPeaks_37 : decode cX8_laysPeaks 37 = .ok (.istore_n 3, 1) := by decide +kernel
theorem dX8_laysPeaks_38 : decode cX8_laysPeaks 38 = .ok (.iload_n 3, 1) := by decide +kernel
theorem dX8_laysPeaks_39 : decode cX8_laysPeaks 39 = .ok (.aload_n 0, 1) := by decide +kernel
theorem dX8_laysPeaks_40 : decode cX8_laysPeaks 40 = .ok (.getfield 7, 3) := by decide +kernel
theorem dX8_laysPeaks_43 : decode cX8_laysPeaks 43 = .ok (.iconst 2, 1) := by decide +kernel
theorem dX8_laysPeaks_44 : decode cX8_laysPeaks 44 = .ok (.iaload, 1) := by decide +kernel
theorem dX8_laysPeaks_45 : decode cX8_laysPeaks 45 = .ok (.if_icmp .lt 54, 3) := by decide +kernel
theorem dX8_laysPeaks_48 : decode cX8_laysPeaks 48 = .ok (.iload_n 3, 1) := by decide +kernel
theorem dX8_laysPeaks_49 : decode cX8_laysPeaks 49 = .ok (.aload_n 0, 1) := by decide +kernel
theorem dX8_laysPeaks_50 : decode cX8_laysPeaks 50 = .ok (.iload_n 1, 1) := by decide +kernel
theorem dX8_laysPeaks_51 : decode cX8_laysPeaks 51 = .ok (.iload_n 2, 1) := by decide +kernel
theorem dX8_laysPeaks_52 : decode cX8_laysPeaks 52 = .ok (.iconst 1, 1) := by decide +kernel
theorem dX8_laysPeaks_53 : decode cX8_laysPeaks 53 = .ok (.isub, 1) := by decide +kernel
theorem dX8_laysPeaks_54 : decode cX8_laysPeaks 54 = .ok (.invokevirtual 118, 3) := by decide +kernel
theorem dX8_laysPeaks_57 : decode cX8_laysPeaks 57 = .ok (.if_icmp .le 42, 3) := by decide +kernel
theorem dX8_laysPeaks_60 : decode cX8_laysPeaks 60 = .ok (.iload_n 3, 1) := by decide +kernel
theorem dX8_laysPeaks_61 : decode cX8_laysPeaks 61 = .ok (.aload_n 0, 1) := by decide +kernel
theorem dX8_laysPeaks_62 : decode cX8_laysPeaks 62 = .ok (.iload_n 1, 1) := by decide +kernel
theorem dX8_laysPeaks_63 : decode cX8_laysPeaks 63 = .ok (.iload_n 2, 1) := by decide +kernel
theorem dX8_laysPeaks_64 : decode cX8_laysPeaks 64 = .ok (.iconst 1, 1) := by decide +kernel
theorem dX8_laysPeaks_65 : decode cX8_laysPeaks 65 = .ok (.iadd, 1) := by decide +kernel
theorem dX8_laysPeaks_66 : decode cX8_laysPeaks 66 = .ok (.invokevirtual 118, 3) := by decide +kernel
theorem dX8_laysPeaks_69 : decode cX8_laysPeaks 69 = .ok (.if_icmp .lt 30, 3) := by decide +kernel
theorem dX8_laysPeaks_72 : decode cX8_laysPeaks 72 = .ok (.aload_n 0, 1) := by decide +kernel
theorem dX8_laysPeaks_73 : decode cX8_laysPeaks 73 = .ok (.getfield 36, 3) := by decide +kernel
theorem dX8_laysPeaks_76 : decode cX8_laysPeaks 76 = .ok (.bipush 6, 2) := by decide +kernel
theorem dX8_laysPeaks_78 : decode cX8_laysPeaks 78 = .ok (.iload_n 1, 1) := by decide +kernel
theorem dX8_laysPeaks_79 : decode cX8_laysPeaks 79 = .ok (.imul, 1) := by decide +kernel
theorem dX8_laysPeaks_80 : decode cX8_laysPeaks 80 = .ok (.aload_n 0, 1) := by decide +kernel
theorem dX8_laysPeaks_81 : decode cX8_laysPeaks 81 = .ok (.getfield 33, 3) := by decide +kernel
theorem dX8_laysPeaks_84 : decode cX8_laysPeaks 84 = .ok (.iload_n 1, 1) := by decide +kernel
theorem dX8_laysPeaks_85 : decode cX8_laysPeaks 85 = .ok (.iaload, 1) := by decide +kernel
theorem dX8_laysPeaks_86 : decode cX8_laysPeaks 86 = .ok (.iadd, 1) := by decide +kernel
theorem dX8_laysPeaks_87 : decode cX8_laysPeaks 87 = .ok (.iload_n 2, 1) := by decide +kernel
theorem dX8_laysPeaks_88 : decode cX8_laysPeaks 88 = .ok (.iastore, 1) := by decide +kernel
theorem dX8_laysPeaks_89 : decode cX8_laysPeaks 89 = .ok (.aload_n 0, 1) := by decide +kernel
theorem dX8_laysPeaks_90 : decode cX8_laysPeaks 90 = .ok (.getfield 33, 3) := by decide +kernel
theorem dX8_laysPeaks_93 : decode cX8_laysPeaks 93 = .ok (.iload_n 1, 1) := by decide +kernel
theorem dX8_laysPeaks_94 : decode cX8_laysPeaks 94 = .ok (.dup2, 1) := by decide +kernel
theorem dX8_laysPeaks_95 : decode cX8_laysPeaks 95 = .ok (.iaload, 1) := by decide +kernel
theorem dX8_laysPeaks_96 : decode cX8_laysPeaks 96 = .ok (.iconst 1, 1) := by decide +kernel
theorem dX8_laysPeaks_97 : decode cX8_laysPeaks 97 = .ok (.iadd, 1) := by decide +kernel
theorem dX8_laysPeaks_98 : decode cX8_laysPeaks 98 = .ok (.iastore, 1) := by decide +kernel
theorem dX8_laysPeaks_99 : decode cX8_laysPeaks 99 = .ok (.iinc 2 1, 3) := by decide +kernel
theorem dX8_laysPeaks_102 : decode cX8_laysPeaks 102 = .ok (.goto (-81), 3) := by decide +kernel
theorem dX8_laysPeaks_105 : decode cX8_laysPeaks 105 = .ok (.iinc 1 1, 3) := by decide +kernel
theorem dX8_laysPeaks_108 : decode cX8_laysPeaks 108 = .ok (.goto (-106), 3) := by decide +kernel
theorem dX8_laysPeaks_111 : decode cX8_laysPeaks 111 = .ok (.return_, 1) := by decide +kernel
theorem dX8_pitchOf_0 : decode cX8_pitchOf 0 = .ok (.aload_n 0, 1) := by decide +kernel
theorem dX8_pitchOf_1 : decode cX8_pitchOf 1 = .ok (.getfield 36, 3) := by decide +kernel
theorem dX8_pitchOf_4 : decode cX8_pitchOf 4 = .ok (.bipush 6, 2) := by decide +kernel
theorem dX8_pitchOf_6 : decode cX8_pitchOf 6 = .ok (.iload_n 1, 1) := by decide +kernel
theorem dX8_pitchOf_7 : decode cX8_pitchOf 7 = .ok (.imul, 1) := by decide +kernel
theorem dX8_pitchOf_8 : decode cX8_pitchOf 8 = .ok (.iload_n 2, 1) := by decide +kernel
theorem dX8_pitchOf_9 : decode cX8_pitchOf 9 = .ok (.iadd, 1) := by decide +kernel
theorem dX8_pitchOf_10 : decode cX8_pitchOf 10 = .ok (.iaload, 1) := by decide +kernel
theorem dX8_pitchOf_11 : decode cX8_pitchOf 11 = .ok (.istore_n 3, 1) := by decide +kernel
theorem dX8_pitchOf_12 : decode cX8_pitchOf 12 = .ok (.aload_n 0, 1) := by decide +kernel
theorem dX8_pitchOf_13 : decode cX8_pitchOf 13 = .ok (.iload_n 1, 1) := by decide +kernel
theorem dX8_pitchOf_14 : decode cX8_pitchOf 14 = .ok (.iload_n 3, 1) := by decide +kernel
theorem dX8_pitchOf_15 : decode cX8_pitchOf 15 = .ok (.iconst 1, 1) := by decide +kernel
theorem dX8_pitchOf_16 : decode cX8_pitchOf 16 = .ok (.isub, 1) := by decide +kernel
theorem dX8_pitchOf_17 : decode cX8_pitchOf 17 = .ok (.invokevirtual 118, 3) := by decide +kernel
theorem dX8_pitchOf_20 : decode cX8_pitchOf 20 = .ok (.istore 4, 2) := by decide +kernel
theorem dX8_pitchOf_22 : decode cX8_pitchOf 22 = .ok (.aload_n 0, 1) := by decide +kernel
theorem dX8_pitchOf_23 : decode cX8_pitchOf 23 = .ok (.iload_n 1, 1) := by decide +kernel
theorem dX8_pitchOf_24 : decode cX8_pitchOf 24 = .ok (.iload_n 3, 1) := by decide +kernel
theorem dX8_pitchOf_25 : decode cX8_pitchOf 25 = .ok (.iconst 1, 1) := by decide +kernel
theorem dX8_pitchOf_26 : decode cX8_pitchOf 26 = .ok (.iadd, 1) := by decide +kernel
theorem dX8_pitchOf_27 : decode cX8_pitchOf 27 = .ok (.invokevirtual 118, 3) := by decide +kernel
theorem dX8_pitchOf_30 : decode cX8_pitchOf 30 = .ok (.istore 5, 2) := by decide +kernel
theorem dX8_pitchOf_32 : decode cX8_pitchOf 32 = .ok (.iconst 4, 1) := by decide +kernel
theorem dX8_pitchOf_33 : decode cX8_pitchOf 33 = .ok (.iload_n 3, 1) := by decide +kernel
theorem dX8_pitchOf_34 : decode cX8_pitchOf 34 = .ok (.imul, 1) := by decide +kernel
theorem dX8_pitchOf_35 : decode cX8_pitchOf 35 = .ok (.iload 5, 2) := by decide +kernel
theorem dX8_pitchOf_37 : decode cX8_pitchOf 37 = .ok (.iload 4, 2) := by decide +kernel
theorem dX8_pitchOf_39 : decode cX8_pitchOf 39 = .ok (.if_icmp .le 7, 3) := by decide +kernel
theorem dX8_pitchOf_42 : decode cX8_pitchOf 42 = .ok (.iconst 1, 1) := by decide +kernel
theorem dX8_pitchOf_43 : decode cX8_pitchOf 43 = .ok (.goto 15, 3) := by decide +kernel
theorem dX8_pitchOf_46 : decode cX8_pitchOf 46 = .ok (.iload 5, 2) := by decide +kernel
theorem dX8_pitchOf_48 : decode cX8_pitchOf 48 = .ok (.iload 4, 2) := by decide +kernel
theorem dX8_pitchOf_50 : decode cX8_pitchOf 50 = .ok (.if_icmp .ge 7, 3) := by decide +kernel
theorem dX8_pitchOf_53 : decode cX8_pitchOf 53 = .ok (.iconst (-1), 1) := by decide +kernel
theorem dX8_pitchOf_54 : decode cX8_pitchOf 54 = .ok (.goto 4, 3) := by decide +kernel
theorem dX8_pitchOf_57 : decode cX8_pitchOf 57 = .ok (.iconst 0, 1) := by decide +kernel
theorem dX8_pitchOf_58 : decode cX8_pitchOf 58 = .ok (.iadd, 1) := by decide +kernel
theorem dX8_pitchOf_59 : decode cX8_pitchOf 59 = .ok (.ireturn, 1) := by decide +kernel
theorem dX8_loudOf_0 : decode cX8_loudOf 0 = .ok (.aload_n 0, 1) := by decide +kernel
theorem dX8_loudOf_1 : decode cX8_loudOf 1 = .ok (.iload_n 1, 1) := by decide +kernel
theorem dX8_loudOf_2 : decode cX8_loudOf 2 = .ok (.aload_n 0, 1) := by decide +kernel
theorem dX8_loudOf_3 : decode cX8_loudOf 3 = .ok (.getfield 36, 3) := by decide +kernel
theorem dX8_loudOf_6 : decode cX8_loudOf 6 = .ok (.bipush 6, 2) := by decide +kernel
theorem dX8_loudOf_8 : decode cX8_loudOf 8 = .ok (.iload_n 1, 1) := by decide +kernel
theorem dX8_loudOf_9 : decode cX8_loudOf 9 = .ok (.imul, 1) := by decide +kernel
theorem dX8_loudOf_10 : decode cX8_loudOf 10 = .ok (.iload_n 2, 1) := by decide +kernel
theorem dX8_loudOf_11 : decode cX8_loudOf 11 = .ok (.iadd, 1) := by decide +kernel
theorem dX8_loudOf_12 : decode cX8_loudOf 12 = .ok (.iaload, 1) := by decide +kernel
theorem dX8_loudOf_13 : decode cX8_loudOf 13 = .ok (.invokevirtual 118, 3) := by decide +kernel
theorem dX8_loudOf_16 : decode cX8_loudOf 16 = .ok (.ireturn, 1) := by decide +kernel
theorem dX8_apart_0 : decode cX8_apart 0 = .ok (.aload_n 0, 1) := by decide +kernel
theorem dX8_apart_1 : decode cX8_apart 1 = .ok (.iload_n 1, 1) := by decide +kernel
theorem dX8_apart_2 : decode cX8_apart 2 = .ok (.iload_n 2, 1) := by decide +kernel
theorem dX8_apart_3 : decode cX8_apart 3 = .ok (.invokevirtual 121, 3) := by decide +kernel
theorem dX8_apart_6 : decode cX8_apart 6 = .ok (.aload_n 0, 1) := by decide +kernel
theorem dX8_apart_7 : decode cX8_apart 7 = .ok (.iload_n 1, 1) := by decide +kernel
theorem dX8_apart_8 : decode cX8_apart 8 = .ok (.iconst 1, 1) := by decide +kernel
theorem dX8_apart_9 : decode cX8_apart 9 = .ok (.iadd, 1) := by decide +kernel
theorem dX8_apart_10 : decode cX8_apart 10 = .ok (.iload_n 3, 1) := by decide +kernel
theorem dX8_apart_11 : decode cX8_apart 11 = .ok (.invokevirtual 121, 3) := by decide +kernel
theorem dX8_apart_14 : decode cX8_apart 14 = .ok (.isub, 1) := by decide +kernel
theorem dX8_apart_15 : decode cX8_apart 15 = .ok (.istore 4, 2) := by decide +kernel
theorem dX8_apart_17 : decode cX8_apart 17 = .ok (.iload 4, 2) := by decide +kernel
theorem dX8_apart_19 : decode cX8_apart 19 = .ok (.ifCond .ge 9, 3) := by decide +kernel
theorem dX8_apart_22 : decode cX8_apart 22 = .ok (.iload 4, 2) := by decide +kernel
theorem dX8_apart_24 : decode cX8_apart 24 = .ok (.ineg, 1) := by decide +kernel
theorem dX8_apart_25 : decode cX8_apart 25 = .ok (.goto 5, 3) := by decide +kernel
theorem dX8_apart_28 : decode cX8_apart 28 = .ok (.iload 4, 2) := by decide +kernel
theorem dX8_apart_30 : decode cX8_apart 30 = .ok (.ireturn, 1) := by decide +kernel
theorem dX8_worthOf_0 : decode cX8_worthOf 0 = .ok (.aload_n 0, 1) := by decide +kernel
theorem dX8_worthOf_1 : decode cX8_worthOf 1 = .ok (.getfield 45, 3) := by decide +kernel
theorem dX8_worthOf_4 : decode cX8_worthOf 4 = .ok (.bipush 7, 2) := by decide +kernel
theorem dX8_worthOf_6 : decode cX8_worthOf 6 = .ok (.iload_n 1, 1) := by decide +kernel
theorem dX8_worthOf_7 : decode cX8_worthOf 7 = .ok (.imul, 1) := by decide +kernel
theorem dX8_worthOf_8 : decode cX8_worthOf 8 = .ok (.iload_n 2, 1) := by decide +kernel
theorem dX8_worthOf_9 : decode cX8_worthOf 9 = .ok (.iadd, 1) := by decide +kernel
theorem dX8_worthOf_10 : decode cX8_worthOf 10 = .ok (.iaload, 1) := by decide +kernel
theorem dX8_worthOf_11 : decode cX8_worthOf 11 = .ok (.ireturn, 1) := by decide +kernel
theorem dX8_pairWorth_0 : decode cX8_pairWorth 0 = .ok (.aload_n 0, 1) := by decide +kernel
theorem dX8_pairWorth_1 : decode cX8_pairWorth 1 = .ok (.iload_n 1, 1) := by decide +kernel
theorem dX8_pairWorth_2 : decode cX8_pairWorth 2 = .ok (.iload_n 2, 1) := by decide +kernel
theorem dX8_pairWorth_3 : decode cX8_pairWorth 3 = .ok (.iload_n 3, 1) := by decide +kernel
theorem dX8_pairWorth_4 : decode cX8_pairWorth 4 = .ok (.invokevirtual 124, 3) := by decide +kernel
theorem dX8_pairWorth_7 : decode cX8_pairWorth 7 = .ok (.istore 5, 2) := by decide +kernel
theorem dX8_pairWorth_9 : decode cX8_pairWorth 9 = .ok (.iload 5, 2) := by decide +kernel
theorem dX8_pairWorth_11 : decode cX8_pairWorth 11 = .ok (.iload 4, 2) := by decide +kernel
theorem dX8_pairWorth_13 : decode cX8_pairWorth 13 = .ok (.if_icmp .le 7, 3) := by decide +kernel
theorem dX8_pairWorth_16 : decode cX8_pairWorth 16 = .ok (.iconst (-1), 1) := by decide +kernel
theorem dX8_pairWorth_17 : decode cX8_pairWorth 17 = .ok (.goto 20, 3) := by decide +kernel
theorem dX8_pairWorth_20 : decode cX8_pairWorth 20 = .ok (.sipush 1000, 3) := by decide +kernel
theorem dX8_pairWorth_23 : decode cX8_pairWorth 23 = .ok (.iload 5, 2) := by decide +kernel
theorem dX8_pairWorth_25 : decode cX8_pairWorth 25 = .ok (.isub, 1) := by decide +kernel
theorem dX8_pairWorth_26 : decode cX8_pairWorth 26 = .ok (.aload_n 0, 1) := by decide +kernel
theorem dX8_pairWorth_27 : decode cX8_pairWorth 27 = .ok (.iload_n 2, 1) := by decide +kernel
theorem dX8_pairWorth_28 : decode cX8_pairWorth 28 = .ok (.iconst 1, 1) := by decide +kernel
theorem dX8_pairWorth_29 : decode cX8_pairWorth 29 = .ok (.iadd, 1) := by decide +kernel
theorem dX8_pairWorth_30 : decode cX8_pairWorth 30 = .ok (.iload_n 3, 1) := by decide +kernel
theorem dX8_pairWorth_31 : decode cX8_pairWorth 31 = .ok (.iconst 1, 1) := by decide +kernel
theorem dX8_pairWorth_32 : decode cX8_pairWorth 32 = .ok (.iadd, 1) := by decide +kernel
theorem dX8_pairWorth_33 : decode cX8_pairWorth 33 = .ok (.invokevirtual 128, 3) := by decide +kernel
theorem dX8_pairWorth_36 : decode cX8_pairWorth 36 = .ok (.iadd, 1) := by decide +kernel
theorem dX8_pairWorth_37 : decode cX8_pairWorth 37 = .ok (.ireturn, 1) := by decide +kernel
theorem dX8_laysWorth_0 : decode cX8_laysWorth 0 = .ok (.aload_n 0, 1) := by decide +kernel
theorem dX8_laysWorth_1 : decode cX8_laysWorth 1 = .ok (.getfield 33, 3) := by decide +kernel
theorem dX8_laysWorth_4 : decode cX8_laysWorth 4 = .ok (.iload_n 1, 1) := by decide +kernel
theorem dX8_laysWorth_5 : decode cX8_laysWorth 5 = .ok (.iaload, 1) := by decide +kernel
theorem dX8_laysWorth_6 : decode cX8_laysWorth 6 = .ok (.istore_n 3, 1) := by decide +kernel
theorem dX8_laysWorth_7 : decode cX8_laysWorth 7 = .ok (.iload_n 3, 1) := by decide +kernel
theorem dX8_laysWorth_8 : decode cX8_laysWorth 8 = .ok (.ifCond .lt 141, 3) := by decide +kernel
theorem dX8_laysWorth_11 : decode cX8_laysWorth 11 = .ok (.aload_n 0, 1) := by decide +kernel
theorem dX8_laysWorth_12 : decode cX8_laysWorth 12 = .ok (.getfield 33, 3) := by decide +kernel
theorem dX8_laysWorth_15 : decode cX8_laysWorth 15 = .ok (.iload_n 1, 1) := by decide +kernel
theorem dX8_laysWorth_16 : decode cX8_laysWorth 16 = .ok (.iconst 1, 1) := by decide +kernel
theorem dX8_laysWorth_17 : decode cX8_laysWorth 17 = .ok (.iadd, 1) := by decide +kernel
theorem dX8_laysWorth_18 : decode cX8_laysWorth 18 = .ok (.iaload, 1) := by decide +kernel
theorem dX8_laysWorth_19 : decode cX8_laysWorth 19 = .ok (.istore 4, 2) := by decide +kernel
theorem dX8_laysWorth_21 : decode cX8_laysWorth 21 = .ok (.iload 4, 2) := by decide +kernel
theorem dX8_laysWorth_23 : decode cX8_laysWorth 23 = .ok (.ifCond .lt 120, 3) := by decide +kernel
theorem dX8_laysWorth_26 : decode cX8_laysWorth 26 = .ok (.iconst 0, 1) := by decide +kernel
theorem dX8_laysWorth_27 : decode cX8_laysWorth 27 = .ok (.istore 5, 2) := by decide +kernel
theorem dX8_laysWorth_29 : decode cX8_laysWorth 29 = .ok (.iload_n 3, 1) := by decide +kernel
theorem dX8_laysWorth_30 : decode cX8_laysWorth 30 = .ok (.aload_n 0, 1) := by decide +kernel
theorem dX8_laysWorth_31 : decode cX8_laysWorth 31 = .ok (.getfield 33, 3) := by decide +kernel
theorem dX8_laysWorth_34 : decode cX8_laysWorth 34 = .ok (.iload_n 1, 1) := by decide +kernel
theorem dX8_laysWorth_35 : decode cX8_laysWorth 35 = .ok (.iaload, 1) := by decide +kernel
theorem dX8_laysWorth_36 : decode cX8_laysWorth 36 = .ok (.if_icmp .ge 87, 3) := by decide +kernel
theorem dX8_laysWorth_39 : decode cX8_laysWorth 39 = .ok (.iload 4, 2) := by decide +kernel
theorem dX8_laysWorth_41 : decode cX8_laysWorth 41 = .ok (.aload_n 0, 1) := by decide +kernel
theorem dX8_laysWorth_42 : decode cX8_laysWorth 42 = .ok (.getfield 33, 3) := by decide +kernel
theorem dX8_laysWorth_45 : decode cX8_laysWorth 45 = .ok (.iload_n 1, 1) := by decide +kernel
theorem dX8_laysWorth_46 : decode cX8_laysWorth 46 = .ok (.iconst 1, 1) := by decide +kernel
theorem dX8_laysWorth_47 : decode cX8_laysWorth 47 = .ok (.iadd, 1) := by decide +kernel
theorem dX8_laysWorth_48 : decode cX8_laysWorth 48 = .ok (.iaload, 1) := by decide +kernel
theorem dX8_laysWorth_49 : decode cX8_laysWorth 49 = .ok (.if_icmp .ge 74, 3) := by decide +kernel
theorem dX8_laysWorth_52 : decode cX8_laysWorth 52 = .ok (.aload_n 0, 1) := by decide +kernel
theorem dX8_laysWorth_53 : decode cX8_laysWorth 53 = .ok (.iload_n 1, 1) := by decide +kernel
theorem dX8_laysWorth_54 : decode cX8_laysWorth 54 = .ok (.iload_n 3, 1) := by decide +kernel
theorem dX8_laysWorth_55 : decode cX8_laysWorth 55 = .ok (.iload 4, 2) := by decide +kernel
theorem dX8_laysWorth_57 : decode cX8_laysWorth 57 = .ok (.iload_n 2, 1) := by decide +kernel
theorem dX8_laysWorth_58 : decode cX8_laysWorth 58 = .ok (.invokevirtual 131, 3) := by decide +kernel
theorem dX8_laysWorth_61 : decode cX8_laysWorth 61 = .ok (.istore 5, 2) := by decide +kernel
theorem dX8_laysWorth_63 : decode cX8_laysWorth 63 = .ok (.aload_n 0, 1) := by decide +kernel
theorem dX8_laysWorth_64 : decode cX8_laysWorth 64 = .ok (.iload_n 3, 1) := by decide +kernel
theorem dX8_laysWorth_65 : decode cX8_laysWorth 65 = .ok (.iconst 1, 1) := by decide +kernel
theorem dX8_laysWorth_66 : decode cX8_laysWorth 66 = .ok (.iadd, 1) := by decide +kernel
theorem dX8_laysWorth_67 : decode cX8_laysWorth 67 = .ok (.iload 4, 2) := by decide +kernel
theorem dX8_laysWorth_69 : decode cX8_laysWorth 69 = .ok (.invokevirtual 128, 3) := by decide +kernel
theorem dX8_laysWorth_72 : decode cX8_laysWorth 72 = .ok (.iload 5, 2) := by decide +kernel
theorem dX8_laysWorth_74 : decode cX8_laysWorth 74 = .ok (.if_icmp .le 15, 3) := by decide +kernel
theorem dX8_laysWorth_77 : decode cX8_laysWorth 77 = .ok (.aload_n 0, 1) := by decide +kernel
theorem dX8_laysWorth_78 : decode cX8_laysWorth 78 = .ok (.iload_n 3, 1) := by decide +kernel
theorem dX8_laysWorth_79 : decode cX8_laysWorth 79 = .ok (.iconst 1, 1) := by decide +kernel
theorem dX8_laysWorth_80 : decode cX8_laysWorth 80 = .ok (.iadd, 1) := by decide +kernel
theorem dX8_laysWorth_81 : decode cX8_laysWorth 81 = .ok (.iload 4, 2) := by decide +kernel
theorem dX8_laysWorth_83 : decode cX8_laysWorth 83 = .ok (.invokevirtual 128, 3) := by decide +kernel
theorem dX8_laysWorth_86 : decode cX8_laysWorth 86 = .ok (.goto 5, 3) := by decide +kernel
theorem dX8_laysWorth_89 : decode cX8_laysWorth 89 = .ok (.iload 5, 2) := by decide +kernel
theorem dX8_laysWorth_91 : decode cX8_laysWorth 91 = .ok (.istore 5, 2) := by decide +kernel
theorem dX8_laysWorth_93 : decode cX8_laysWorth 93 = .ok (.aload_n 0, 1) := by decide +kernel
theorem dX8_laysWorth_94 : decode cX8_laysWorth 94 = .ok (.iload_n 3, 1) := by decide +kernel
theorem dX8_laysWorth_95 : decode cX8_laysWorth 95 = .ok (.iload 4, 2) := by decide +kernel
theorem dX8_laysWorth_97 : decode cX8_laysWorth 97 = .ok (.iconst 1, 1) := by decide +kernel
theorem dX8_laysWorth_98 : decode cX8_laysWorth 98 = .ok (.iadd, 1) := by decide +kernel
theorem dX8_laysWorth_99 : decode cX8_laysWorth 99 = .ok (.invokevirtual 128, 3) := by decide +kernel
theorem dX8_laysWorth_102 : decode cX8_laysWorth 102 = .ok (.iload 5, 2) := by decide +kernel
theorem dX8_laysWorth_104 : decode cX8_laysWorth 104 = .ok (.if_icmp .le 15, 3) := by decide +kernel
theorem dX8_laysWorth_107 : decode cX8_laysWorth 107 = .ok (.aload_n 0, 1) := by decide +kernel
theorem dX8_laysWorth_108 : decode cX8_laysWorth 108 = .ok (.iload_n 3, 1) := by decide +kernel
theorem dX8_laysWorth_109 : decode cX8_laysWorth 109 = .ok (.iload 4, 2) := by decide +kernel
theorem dX8_laysWorth_111 : decode cX8_laysWorth 111 = .ok (.iconst 1, 1) := by decide +kernel
theorem dX8_laysWorth_112 : decode cX8_laysWorth 112 = .ok (.iadd, 1) := by decide +kernel
theorem dX8_laysWorth_113 : decode cX8_laysWorth 113 = .ok (.invokevirtual 128, 3) := by decide +kernel
theorem dX8_laysWorth_116 : decode cX8_laysWorth 116 = .ok (.goto 5, 3) := by decide +kernel
theorem dX8_laysWorth_119 : decode cX8_laysWorth 119 = .ok (.iload 5, 2) := by decide +kernel
theorem dX8_laysWorth_121 : decode cX8_laysWorth 121 = .ok (.istore 5, 2) := by decide +kernel
theorem dX8_laysWorth_123 : decode cX8_laysWorth 123 = .ok (.aload_n 0, 1) := by decide +kernel
theorem dX8_laysWorth_124 : decode cX8_laysWorth 124 = .ok (.getfield 45, 3) := by decide +kernel
theorem dX8_laysWorth_127 : decode cX8_laysWorth 127 = .ok (.bipush 7, 2) := by decide +kernel
theorem dX8_laysWorth_129 : decode cX8_laysWorth 129 = .ok (.iload_n 3, 1) := by decide +kernel
theorem dX8_laysWorth_130 : decode cX8_laysWorth 130 = .ok (.imul, 1) := by decide +kernel
theorem dX8_laysWorth_131 : decode cX8_laysWorth 131 = .ok (.iload 4, 2) := by decide +kernel
theorem dX8_laysWorth_133 : decode cX8_laysWorth 133 = .ok (.iadd, 1) := by decide +kernel
theorem dX8_laysWorth_134 : decode cX8_laysWorth 134 = .ok (.iload 5, 2) := by decide +kernel
theorem dX8_laysWorth_136 : decode cX8_laysWorth 136 = .ok (.iastore, 1) := by decide +kernel
theorem dX8_laysWorth_137 : decode cX8_laysWorth 137 = .ok (.iinc 4 (-1), 3) := by decide +kernel
theorem dX8_laysWorth_140 : decode cX8_laysWorth 140 = .ok (.goto (-119), 3) := by decide +kernel
theorem dX8_laysWorth_143 : decode cX8_laysWorth 143 = .ok (.iinc 3 (-1), 3) := by decide +kernel
theorem dX8_laysWorth_146 : decode cX8_laysWorth 146 = .ok (.goto (-139), 3) := by decide +kernel
theorem dX8_laysWorth_149 : decode cX8_laysWorth 149 = .ok (.return_, 1) := by decide +kernel
theorem dX8_joins_0 : decode cX8_joins 0 = .ok (.aload_n 0, 1) := by decide +kernel
theorem dX8_joins_1 : decode cX8_joins 1 = .ok (.iload_n 1, 1) := by decide +kernel
theorem dX8_joins_2 : decode cX8_joins 2 = .ok (.iload_n 2, 1) := by decide +kernel
theorem dX8_joins_3 : decode cX8_joins 3 = .ok (.invokevirtual 135, 3) := by decide +kernel
theorem dX8_joins_6 : decode cX8_joins 6 = .ok (.iconst 0, 1) := by decide +kernel
theorem dX8_joins_7 : decode cX8_joins 7 = .ok (.istore_n 3, 1) := by decide +kernel
theorem dX8_joins_8 : decode cX8_joins 8 = .ok (.iconst 0, 1) := by decide +kernel
theorem dX8_joins_9 : decode cX8_joins 9 = .ok (.istore 4, 2) := by decide +kernel
theorem dX8_joins_11 : decode cX8_joins 11 = .ok (.iload 4, 2) := by decide +kernel
theorem dX8_joins_13 : decode cX8_joins 13 = .ok (.aload_n 0, 1) := by decide +kernel
theorem dX8_joins_14 : decode cX8_joins 14 = .ok (.getfield 33, 3) := by decide +kernel
theorem dX8_joins_17 : decode cX8_joins 17 = .ok (.iload_n 1, 1) := by decide +kernel
theorem dX8_joins_18 : decode cX8_joins 18 = .ok (.iaload, 1) := by decide +kernel
theorem dX8_joins_19 : decode cX8_joins 19 = .ok (.if_icmp .ge 96, 3) := by decide +kernel
theorem dX8_joins_22 : decode cX8_joins 22 = .ok (.bipush (-9), 2) := by decide +kernel
theorem dX8_joins_24 : decode cX8_joins 24 = .ok (.istore 5, 2) := by decide +kernel
theorem dX8_joins_26 : decode cX8_joins 26 = .ok (.aload_n 0, 1) := by decide +kernel
theorem dX8_joins_27 : decode cX8_joins 27 = .ok (.getfield 33, 3) := by decide +kernel
theorem dX8_joins_30 : decode cX8_joins 30 = .ok (.iload_n 1, 1) := by decide +kernel
theorem dX8_joins_31 : decode cX8_joins 31 = .ok (.iconst 1, 1) := by decide +kernel
theorem dX8_joins_32 : decode cX8_joins 32 = .ok (.iadd, 1) := by decide +kernel
theorem dX8_joins_33 : decode cX8_joins 33 = .ok (.iaload, 1) := by decide +kernel
theorem dX8_joins_34 : decode cX8_joins 34 = .ok (.iconst 1, 1) := by decide +kernel
theorem dX8_joins_35 : decode cX8_joins 35 = .ok (.isub, 1) := by decide +kernel
theorem dX8_joins_36 : decode cX8_joins 36 = .ok (.istore 6, 2) := by decide +kernel
theorem dX8_joins_38 : decode cX8_joins 38 = .ok (.iload 6, 2) := by decide +kernel
theorem dX8_joins_40 : decode cX8_joins 40 = .ok (.iload_n 3, 1) := by decide +kernel
theorem dX8_joins_41 : decode cX8_joins 41 = .ok (.if_icmp .lt 38, 3) := by decide +kernel
theorem dX8_joins_44 : decode cX8_joins 44 = .ok (.aload_n 0, 1) := by decide +kernel
theorem dX8_joins_45 : decode cX8_joins 45 = .ok (.iload_n 1, 1) := by decide +kernel
theorem dX8_joins_46 : decode cX8_joins 46 = .ok (.iload 4, 2) := by decide +kernel
theorem dX8_joins_48 : decode cX8_joins 48 = .ok (.iload 6, 2) := by decide +kernel
theorem dX8_joins_50 : decode cX8_joins 50 = .ok (.iload_n 2, 1) := by decide +kernel
theorem dX8_joins_51 : decode cX8_joins 51 = .ok (.invokevirtual 131, 3) := by decide +kernel
theorem dX8_joins_54 : decode cX8_joins 54 = .ok (.aload_n 0, 1) := by decide +kernel
theorem dX8_joins_55 : decode cX8_joins 55 = .ok (.iload 4, 2) := by decide +kernel
theorem dX8_joins_57 : decode cX8_joins 57 = .ok (.iload_n 3, 1) := by decide +kernel
theorem dX8_joins_58 : decode cX8_joins 58 = .ok (.invokevirtual 128, 3) := by decide +kernel
theorem dX8_joins_61 : decode cX8_joins 61 = .ok (.if_icmp .ne 8, 3) := by decide +kernel
theorem dX8_joins_64 : decode cX8_joins 64 = .ok (.iload 6, 2) := by decide +kernel
theorem dX8_joins_66 : decode cX8_joins 66 = .ok (.goto 5, 3) := by decide +kernel
theorem dX8_joins_69 : decode cX8_joins 69 = .ok (.iload 5, 2) := by decide +kernel
theorem dX8_joins_71 : decode cX8_joins 71 = .ok (.istore 5, 2) := by decide +kernel
theorem dX8_joins_73 : decode cX8_joins 73 = .ok (.iinc 6 (-1), 3) := by decide +kernel
theorem dX8_joins_76 : decode cX8_joins 76 = .ok (.goto (-38), 3) := by decide +kernel
theorem dX8_joins_79 : decode cX8_joins 79 = .ok (.aload_n 0, 1) := by decide +kernel
theorem dX8_joins_80 : decode cX8_joins 80 = .ok (.getfield 39, 3) := by decide +kernel
theorem dX8_joins_83 : decode cX8_joins 83 = .ok (.bipush 6, 2) := by decide +kernel
theorem dX8_joins_85 : decode cX8_joins 85 = .ok (.iload_n 1, 1) := by decide +kernel
theorem dX8_joins_86 : decode cX8_joins 86 = .ok (.imul, 1) := by decide +kernel
theorem dX8_joins_87 : decode cX8_joins 87 = .ok (.iload 4, 2) := by decide +kernel
theorem dX8_joins_89 : decode cX8_joins 89 = .ok (.iadd, 1) := by decide +kernel
theorem dX8_joins_90 : decode cX8_joins 90 = .ok (.iload 5, 2) := by decide +kernel
theorem dX8_joins_92 : decode cX8_joins 92 = .ok (.iastore, 1) := by decide +kernel
theorem dX8_joins_93 : decode cX8_joins 93 = .ok (.iload 5, 2) := by decide +kernel
theorem dX8_joins_95 : decode cX8_joins 95 = .ok (.bipush (-9), 2) := by decide +kernel
theorem dX8_joins_97 : decode cX8_joins 97 = .ok (.if_icmp .ne 7, 3) := by decide +kernel
theorem dX8_joins_100 : decode cX8_joins 100 = .ok (.iload_n 3, 1) := by decide +kernel
theorem dX8_joins_101 : decode cX8_joins 101 = .ok (.goto 7, 3) := by decide +kernel
theorem dX8_joins_104 : decode cX8_joins 104 = .ok (.iload 5, 2) := by decide +kernel
theorem dX8_joins_106 : decode cX8_joins 106 = .ok (.iconst 1, 1) := by decide +kernel
theorem dX8_joins_107 : decode cX8_joins 107 = .ok (.iadd, 1) := by decide +kernel
theorem dX8_joins_108 : decode cX8_joins 108 = .ok (.istore_n 3, 1) := by decide +kernel
theorem dX8_joins_109 : decode cX8_joins 109 = .ok (.iinc 4 1, 3) := by decide +kernel
theorem dX8_joins_112 : decode cX8_joins 112 = .ok (.goto (-101), 3) := by decide +kernel
theorem dX8_joins_115 : decode cX8_joins 115 = .ok (.return_, 1) := by decide +kernel
theorem dX8_laysTracks_0 : decode cX8_laysTracks 0 = .ok (.aload_n 0, 1) := by decide +kernel
theorem dX8_laysTracks_1 : decode cX8_laysTracks 1 = .ok (.invokevirtual 139, 3) := by decide +kernel
theorem dX8_laysTracks_4 : decode cX8_laysTracks 4 = .ok (.iconst 0, 1) := by decide +kernel
theorem dX8_laysTracks_5 : decode cX8_laysTracks 5 = .ok (.istore_n 2, 1) := by decide +kernel
theorem dX8_laysTracks_6 : decode cX8_laysTracks 6 = .ok (.iload_n 2, 1) := by decide +kernel
theorem dX8_laysTracks_7 : decode cX8_laysTracks 7 = .ok (.bipush 48, 2) := by decide +kernel
theorem dX8_laysTracks_9 : decode cX8_laysTracks 9 = .ok (.if_icmp .ge 25, 3) := by decide +kernel
theorem dX8_laysTracks_12 : decode cX8_laysTracks 12 = .ok (.aload_n 0, 1) := by decide +kernel
theorem dX8_laysTracks_13 : decode cX8_laysTracks 13 = .ok (.getfield 39, 3) := by decide +kernel
theorem dX8_laysTracks_16 : decode cX8_laysTracks 16 = .ok (.iload_n 2, 1) := by decide +kernel
theorem dX8_laysTracks_17 : decode cX8_laysTracks 17 = .ok (.bipush (-9), 2) := by decide +kernel
theorem dX8_laysTracks_19 : decode cX8_laysTracks 19 = .ok (.iastore, 1) := by decide +kernel
theorem dX8_laysTracks_20 : decode cX8_laysTracks 20 = .ok (.aload_n 0, 1) := by decide +kernel
theorem dX8_laysTracks_21 : decode cX8_laysTracks 21 = .ok (.getfield 42, 3) := by decide +kernel
theorem dX8_laysTracks_24 : decode cX8_laysTracks 24 = .ok (.iload_n 2, 1) := by decide +kernel
theorem dX8_laysTracks_25 : decode cX8_laysTracks 25 = .ok (.bipush (-9), 2) := by decide +kernel
theorem dX8_laysTracks_27 : decode cX8_laysTracks 27 = .ok (.iastore, 1) := by decide +kernel
theorem dX8_laysTracks_28 : decode cX8_laysTracks 28 = .ok (.iinc 2 1, 3) := by decide +kernel
theorem dX8_laysTracks_31 : decode cX8_laysTracks 31 = .ok (.goto (-25), 3) := by decide +kernel
theorem dX8_laysTracks_34 : decode cX8_laysTracks 34 = .ok (.iconst 0, 1) := by decide +kernel
theorem dX8_laysTracks_35 : decode cX8_laysTracks 35 = .ok (.istore_n 2, 1) := by decide +kernel
theorem dX8_laysTracks_36 : decode cX8_laysTracks 36 = .ok (.iload_n 2, 1) := by decide +kernel
theorem dX8_laysTracks_37 : decode cX8_laysTracks 37 = .ok (.iconst 1, 1) := by decide +kernel
theorem dX8_laysTracks_38 : decode cX8_laysTracks 38 = .ok (.iadd, 1) := by decide +kernel
theorem dX8_laysTracks_39 : decode cX8_laysTracks 39 = .ok (.aload_n 0, 1) := by decide +kernel
theorem dX8_laysTracks_40 : decode cX8_laysTracks 40 = .ok (.getfield 7, 3) := by decide +kernel
theorem dX8_laysTracks_43 : decode cX8_laysTracks 43 = .ok (.iconst 0, 1) := by decide +kernel
theorem dX8_laysTracks_44 : decode cX8_laysTracks 44 = .ok (.iaload, 1) := by decide +kernel
theorem dX8_laysTracks_45 : decode cX8_laysTracks 45 = .ok (.if_icmp .ge 15, 3) := by decide +kernel
theorem dX8_laysTracks_48 : decode cX8_laysTracks 48 = .ok (.aload_n 0, 1) := by decide +kernel
theorem dX8_laysTracks_49 : decode cX8_laysTracks 49 = .ok (.iload_n 2, 1) := by decide +kernel
theorem dX8_laysTracks_50 : decode cX8_laysTracks 50 = .ok (.iload_n 1, 1) := by decide +kernel
theorem dX8_laysTracks_51 : decode cX8_laysTracks 51 = .ok (.invokevirtual 142, 3) := by decide +kernel
theorem dX8_laysTracks_54 : decode cX8_laysTracks 54 = .ok (.iinc 2 1, 3) := by decide +kernel
theorem dX8_laysTracks_57 : decode cX8_laysTracks 57 = .ok (.goto (-21), 3) := by decide +kernel
theorem dX8_laysTracks_60 : decode cX8_laysTracks 60 = .ok (.aload_n 0, 1) := by decide +kernel
theorem dX8_laysTracks_61 : decode cX8_laysTracks 61 = .ok (.iconst 0, 1) := by decide +kernel
theorem dX8_laysTracks_62 : decode cX8_laysTracks 62 = .ok (.putfield 145, 3) := by decide +kernel
theorem dX8_laysTracks_65 : decode cX8_laysTracks 65 = .ok (.iconst 0, 1) := by decide +kernel
theorem dX8_laysTracks_66 : decode cX8_laysTracks 66 = .ok (.istore_n 2, 1) := by decide +kernel
theorem dX8_laysTracks_67 : decode cX8_laysTracks 67 = .ok (.iload_n 2, 1) := by decide +kernel
theorem dX8_laysTracks_68 : decode cX8_laysTracks 68 = .ok (.aload_n 0, 1) := by decide +kernel
theorem dX8_laysTracks_69 : decode cX8_laysTracks 69 = .ok (.getfield 7, 3) := by decide +kernel
theorem dX8_laysTracks_72 : decode cX8_laysTracks 72 = .ok (.iconst 0, 1) := by decide +kernel
theorem dX8_laysTracks_73 : decode cX8_laysTracks 73 = .ok (.iaload, 1) := by decide +kernel
theorem dX8_laysTracks_74 : decode cX8_laysTracks 74 = .ok (.if_icmp .ge 59, 3) := by decide +kernel
theorem dX8_laysTracks_77 : decode cX8_laysTracks 77 = .ok (.iconst 0, 1) := by decide +kernel
theorem dX8_laysTracks_78 : decode cX8_laysTracks 78 = .ok (.istore_n 3, 1) := by decide +kernel
theorem dX8_laysTracks_79 : decode cX8_laysTracks 79 = .ok (.iload_n 3, 1) := by decide +kernel
theorem dX8_laysTracks_80 : decode cX8_laysTracks 80 = .ok (.aload_n 0, 1) := by decide +kernel
theorem dX8_laysTracks_81 : decode cX8_laysTracks 81 = .ok (.getfield 33, 3) := by decide +kernel
theorem dX8_laysTracks_84 : decode cX8_laysTracks 84 = .ok (.iload_n 2, 1) := by decide +kernel
theorem dX8_laysTracks_85 : decode cX8_laysTracks 85 = .ok (.iaload, 1) := by decide +kernel
theorem dX8_laysTracks_86 : decode cX8_laysTracks 86 = .ok (.if_icmp .ge 41, 3) := by decide +kernel
theorem dX8_laysTracks_89 : decode cX8_laysTracks 89 = .ok (.aload_n 0, 1) := by decide +kernel
theorem dX8_laysTracks_90 : decode cX8_laysTracks 90 = .ok (.getfield 42, 3) := by decide +kernel
theorem dX8_laysTracks_93 : decode cX8_laysTracks 93 = .ok (.bipush 6, 2) := by decide +kernel
theorem dX8_laysTracks_95 : decode cX8_laysTracks 95 = .ok (.iload_n 2, 1) := by decide +kernel
theorem dX8_laysTracks_96 : decode cX8_laysTracks 96 = .ok (.imul, 1) := by decide +kernel
theorem dX8_laysTracks_97 : decode cX8_laysTracks 97 = .ok (.iload_n 3, 1) := by decide +kernel
theorem dX8_laysTracks_98 : decode cX8_laysTracks 98 = .ok (.iadd, 1) := by decide +kernel
theorem dX8_laysTracks_99 : decode cX8_laysTracks 99 = .ok (.iaload, 1) := by decide +kernel
theorem dX8_laysTracks_100 : decode cX8_laysTracks 100 = .ok (.bipush (-9), 2) := by decide +kernel
theorem dX8_laysTracks_102 : decode cX8_laysTracks 102 = .ok (.if_icmp .ne 19, 3) := by decide +kernel
theorem dX8_laysTracks_105 : decode cX8_laysTracks 105 = .ok (.aload_n 0, 1) := by decide +kernel
theorem dX8_laysTracks_106 : decode cX8_laysTracks 106 = .ok (.iload_n 2, 1) := by decide +kernel
theorem dX8_laysTracks_107 : decode cX8_laysTracks 107 = .ok (.iload_n 3, 1) := by decide +kernel
theorem dX8_laysTracks_108 : decode cX8_laysTracks 108 = .ok (.invokevirtual 148, 3) := by decide +kernel
theorem dX8_laysTracks_111 : decode cX8_laysTracks 111 = .ok (.aload_n 0, 1) := by decide +kernel
theorem dX8_laysTracks_112 : decode cX8_laysTracks 112 = .ok (.dup, 1) := by decide +kernel
theorem dX8_laysTracks_113 : decode cX8_laysTracks 113 = .ok (.getfield 145, 3) := by decide +kernel
theorem dX8_laysTracks_116 : decode cX8_laysTracks 116 = .ok (.iconst 1, 1) := by decide +kernel
theorem dX8_laysTracks_117 : decode cX8_laysTracks 117 = .ok (.iadd, 1) := by decide +kernel
theorem dX8_laysTracks_118 : decode cX8_laysTracks 118 = .ok (.putfield 145, 3) := by decide +kernel
theorem dX8_laysTracks_121 : decode cX8_laysTracks 121 = .ok (.iinc 3 1, 3) := by decide +kernel
theorem dX8_laysTracks_124 : decode cX8_laysTracks 124 = .ok (.goto (-45), 3) := by decide +kernel
theorem dX8_laysTracks_127 : decode cX8_laysTracks 127 = .ok (.iinc 2 1, 3) := by decide +kernel
theorem dX8_laysTracks_130 : decode cX8_laysTracks 130 = .ok (.goto (-63), 3) := by decide +kernel
theorem dX8_laysTracks_133 : decode cX8_laysTracks 133 = .ok (.return_, 1) := by decide +kernel
theorem dX8_follows_0 : decode cX8_follows 0 = .ok (.iload_n 1, 1) := by decide +kernel
theorem dX8_follows_1 : decode cX8_follows 1 = .ok (.istore_n 3, 1) := by decide +kernel
theorem dX8_follows_2 : decode cX8_follows 2 = .ok (.iload_n 2, 1) := by decide +kernel
theorem dX8_follows_3 : decode cX8_follows 3 = .ok (.istore 4, 2) := by decide +kernel
theorem dX8_follows_5 : decode cX8_follows 5 = .ok (.iload 4, 2) := by decide +kernel
theorem dX8_follows_7 : decode cX8_follows 7 = .ok (.bipush (-9), 2) := by decide +kernel
theorem dX8_follows_9 : decode cX8_follows 9 = .ok (.if_icmp .eq 39, 3) := by decide +kernel
theorem dX8_follows_12 : decode cX8_follows 12 = .ok (.aload_n 0, 1) := by decide +kernel
theorem dX8_follows_13 : decode cX8_follows 13 = .ok (.getfield 42, 3) := by decide +kernel
theorem dX8_follows_16 : decode cX8_follows 16 = .ok (.bipush 6, 2) := by decide +kernel
theorem dX8_follows_18 : decode cX8_follows 18 = .ok (.iload_n 3, 1) := by decide +kernel
theorem dX8_follows_19 : decode cX8_follows 19 = .ok (.imul, 1) := by decide +kernel
theorem dX8_follows_20 : decode cX8_follows 20 = .ok (.iload 4, 2) := by decide +kernel
theorem dX8_follows_22 : decode cX8_follows 22 = .ok (.iadd, 1) := by decide +kernel
theorem dX8_follows_23 : decode cX8_follows 23 = .ok (.aload_n 0, 1) := by decide +kernel
theorem dX8_follows_24 : decode cX8_follows 24 = .ok (.getfield 145, 3) := by decide +kernel
theorem dX8_follows_27 : decode cX8_follows 27 = .ok (.iastore, 1) := by decide +kernel
theorem dX8_follows_28 : decode cX8_follows 28 = .ok (.aload_n 0, 1) := by decide +kernel
theorem dX8_follows_29 : decode cX8_follows 29 = .ok (.getfield 39, 3) := by decide +kernel
theorem dX8_follows_32 : decode cX8_follows 32 = .ok (.bipush 6, 2) := by decide +kernel
theorem dX8_follows_34 : decode cX8_follows 34 = .ok (.iload_n 3, 1) := by decide +kernel
theorem dX8_follows_35 : decode cX8_follows 35 = .ok (.imul, 1) := by decide +kernel
theorem dX8_follows_36 : decode cX8_follows 36 = .ok (.iload 4, 2) := by decide +kernel
theorem dX8_follows_38 : decode cX8_follows 38 = .ok (.iadd, 1) := by decide +kernel
theorem dX8_follows_39 : decode cX8_follows 39 = .ok (.iaload, 1) := by decide +kernel
theorem dX8_follows_40 : decode cX8_follows 40 = .ok (.istore 4, 2) := by decide +kernel
theorem dX8_follows_42 : decode cX8_follows 42 = .ok (.iinc 3 1, 3) := by decide +kernel
theorem dX8_follows_45 : decode cX8_follows 45 = .ok (.goto (-40), 3) := by decide +kernel
theorem dX8_follows_48 : decode cX8_follows 48 = .ok (.return_, 1) := by decide +kernel
theorem dX8_lays_0 : decode cX8_lays 0 = .ok (.aload_n 0, 1) := by decide +kernel
theorem dX8_lays_1 : decode cX8_lays 1 = .ok (.aload_n 0, 1) := by decide +kernel
theorem dX8_lays_2 : decode cX8_lays 2 = .ok (.getfield 7, 3) := by decide +kernel
theorem dX8_lays_5 : decode cX8_lays 5 = .ok (.iconst 3, 1) := by decide +kernel
theorem dX8_lays_6 : decode cX8_lays 6 = .ok (.iaload, 1) := by decide +kernel
theorem dX8_lays_7 : decode cX8_lays 7 = .ok (.invokevirtual 151, 3) := by decide +kernel
theorem dX8_lays_10 : decode cX8_lays 10 = .ok (.return_, 1) := by decide +kernel
theorem dX8_peakOf_0 : decode cX8_peakOf 0 = .ok (.bipush (-9), 2) := by decide +kernel
theorem dX8_peakOf_2 : decode cX8_peakOf 2 = .ok (.istore_n 3, 1) := by decide +kernel
theorem dX8_peakOf_3 : decode cX8_peakOf 3 = .ok (.iconst 0, 1) := by decide +kernel
theorem dX8_peakOf_4 : decode cX8_peakOf 4 = .ok (.istore 4, 2) := by decide +kernel
theorem dX8_peakOf_6 : decode cX8_peakOf 6 = .ok (.iload 4, 2) := by decide +kernel
theorem dX8_peakOf_8 : decode cX8_peakOf 8 = .ok (.aload_n 0, 1) := by decide +kernel
theorem dX8_peakOf_9 : decode cX8_peakOf 9 = .ok (.getfield 33, 3) := by decide +kernel
theorem dX8_peakOf_12 : decode cX8_peakOf 12 = .ok (.iload_n 2, 1) := by decide +kernel
theorem dX8_peakOf_13 : decode cX8_peakOf 13 = .ok (.iaload, 1) := by decide +kernel
theorem dX8_peakOf_14 : decode cX8_peakOf 14 = .ok (.if_icmp .ge 32, 3) := by decide +kernel
theorem dX8_peakOf_17 : decode cX8_peakOf 17 = .ok (.aload_n 0, 1) := by decide +kernel
theorem dX8_peakOf_18 : decode cX8_peakOf 18 = .ok (.getfield 42, 3) := by decide +kernel
theorem dX8_peakOf_21 : decode cX8_peakOf 21 = .ok (.bipush 6, 2) := by decide +kernel
theorem dX8_peakOf_23 : decode cX8_peakOf 23 = .ok (.iload_n 2, 1) := by decide +kernel
theorem dX8_peakOf_24 : decode cX8_peakOf 24 = .ok (.imul, 1) := by decide +kernel
theorem dX8_peakOf_25 : decode cX8_peakOf 25 = .ok (.iload 4, 2) := by decide +kernel
theorem dX8_peakOf_27 : decode cX8_peakOf 27 = .ok (.iadd, 1) := by decide +kernel
theorem dX8_peakOf_28 : decode cX8_peakOf 28 = .ok (.iaload, 1) := by decide +kernel
theorem dX8_peakOf_29 : decode cX8_peakOf 29 = .ok (.iload_n 1, 1) := by decide +kernel
theorem dX8_peakOf_30 : decode cX8_peakOf 30 = .ok (.if_icmp .ne 8, 3) := by decide +kernel
theorem dX8_peakOf_33 : decode cX8_peakOf 33 = .ok (.iload 4, 2) := by decide +kernel
theorem dX8_peakOf_35 : decode cX8_peakOf 35 = .ok (.goto 4, 3) := by decide +kernel
theorem dX8_peakOf_38 : decode cX8_peakOf 38 = .ok (.iload_n 3, 1) := by decide +kernel
theorem dX8_peakOf_39 : decode cX8_peakOf 39 = .ok (.istore_n 3, 1) := by decide +kernel
theorem dX8_peakOf_40 : decode cX8_peakOf 40 = .ok (.iinc 4 1, 3) := by decide +kernel
theorem dX8_peakOf_43 : decode cX8_peakOf 43 = .ok (.goto (-37), 3) := by decide +kernel
theorem dX8_peakOf_46 : decode cX8_peakOf 46 = .ok (.iload_n 3, 1) := by decide +kernel
theorem dX8_peakOf_47 : decode cX8_peakOf 47 = .ok (.ireturn, 1) := by decide +kernel
theorem dX8_bornOf_0 : decode cX8_bornOf 0 = .ok (.iconst 0, 1) := by decide +kernel
theorem dX8_bornOf_1 : decode cX8_bornOf 1 = .ok (.istore_n 2, 1) := by decide +kernel
theorem dX8_bornOf_2 : decode cX8_bornOf 2 = .ok (.aload_n 0, 1) := by decide +kernel
theorem dX8_bornOf_3 : decode cX8_bornOf 3 = .ok (.iload_n 1, 1) := by decide +kernel
theorem dX8_bornOf_4 : decode cX8_bornOf 4 = .ok (.iload_n 2, 1) := by decide +kernel
theorem dX8_bornOf_5 : decode cX8_bornOf 5 = .ok (.invokevirtual 155, 3) := by decide +kernel
theorem dX8_bornOf_8 : decode cX8_bornOf 8 = .ok (.bipush (-9), 2) := by decide +kernel
theorem dX8_bornOf_10 : decode cX8_bornOf 10 = .ok (.if_icmp .ne 9, 3) := by decide +kernel
theorem dX8_bornOf_13 : decode cX8_bornOf 13 = .ok (.iinc 2 1, 3) := by decide +kernel
theorem dX8_bornOf_16 : decode cX8_bornOf 16 = .ok (.goto (-14), 3) := by decide +kernel
theorem dX8_bornOf_19 : decode cX8_bornOf 19 = .ok (.iload_n 2, 1) := by decide +kernel
theorem dX8_bornOf_20 : decode cX8_bornOf 20 = .ok (.ireturn, 1) := by decide +kernel
theorem dX8_longOf_0 : decode cX8_longOf 0 = .ok (.iconst 0, 1) := by decide +kernel
theorem dX8_longOf_1 : decode cX8_longOf 1 = .ok (.istore_n 2, 1) := by decide +kernel
theorem dX8_longOf_2 : decode cX8_longOf 2 = .ok (.iconst 0, 1) := by decide +kernel
theorem dX8_longOf_3 : decode cX8_longOf 3 = .ok (.istore_n 3, 1) := by decide +kernel
theorem dX8_longOf_4 : decode cX8_longOf 4 = .ok (.iload_n 3, 1) := by decide +kernel
theorem dX8_longOf_5 : decode cX8_longOf 5 = .ok (.aload_n 0, 1) := by decide +kernel
theorem dX8_longOf_6 : decode cX8_longOf 6 = .ok (.getfield 7, 3) := by decide +kernel
theorem dX8_longOf_9 : decode cX8_longOf 9 = .ok (.iconst 0, 1) := by decide +kernel
theorem dX8_longOf_10 : decode cX8_longOf 10 = .ok (.iaload, 1) := by decide +kernel
theorem dX8_longOf_11 : decode cX8_longOf 11 = .ok (.if_icmp .ge 28, 3) := by decide +kernel
theorem dX8_longOf_14 : decode cX8_longOf 14 = .ok (.iload_n 2, 1) := by decide +kernel
theorem dX8_longOf_15 : decode cX8_longOf 15 = .ok (.aload_n 0, 1) := by decide +kernel
theorem dX8_longOf_16 : decode cX8_longOf 16 = .ok (.iload_n 1, 1) := by decide +kernel
theorem dX8_longOf_17 : decode cX8_longOf 17 = .ok (.iload_n 3, 1) := by decide +kernel
theorem dX8_longOf_18 : decode cX8_longOf 18 = .ok (.invokevirtual 155, 3) := by decide +kernel
theorem dX8_longOf_21 : decode cX8_longOf 21 = .ok (.bipush (-9), 2) := by decide +kernel
theorem dX8_longOf_23 : decode cX8_longOf 23 = .ok (.if_icmp .ne 7, 3) := by decide +kernel
theorem dX8_longOf_26 : decode cX8_longOf 26 = .ok (.iconst 0, 1) := by decide +kernel
theorem dX8_longOf_27 : decode cX8_longOf 27 = .ok (.goto 4, 3) := by decide +kernel
theorem dX8_longOf_30 : decode cX8_longOf 30 = .ok (.iconst 1, 1) := by decide +kernel
theorem dX8_longOf_31 : decode cX8_longOf 31 = .ok (.iadd, 1) := by decide +kernel
theorem dX8_longOf_32 : decode cX8_longOf 32 = .ok (.istore_n 2, 1) := by decide +kernel
theorem dX8_longOf_33 : decode cX8_longOf 33 = .ok (.iinc 3 1, 3) := by decide +kernel
theorem dX8_longOf_36 : decode cX8_longOf 36 = .ok (.goto (-32), 3) := by decide +kernel
theorem dX8_longOf_39 : decode cX8_longOf 39 = .ok (.iload_n 2, 1) := by decide +kernel
theorem dX8_longOf_40 : decode cX8_longOf 40 = .ok (.ireturn, 1) := by decide +kernel
theorem dX8_depthOf_0 : decode cX8_depthOf 0 = .ok (.sipush 1000, 3) := by decide +kernel
theorem dX8_depthOf_3 : decode cX8_depthOf 3 = .ok (.istore_n 2, 1) := by decide +kernel
theorem dX8_depthOf_4 : decode cX8_depthOf 4 = .ok (.sipush (-1000), 3) := by decide +kernel
theorem dX8_depthOf_7 : decode cX8_depthOf 7 = .ok (.istore_n 3, 1) := by decide +kernel
theorem dX8_depthOf_8 : decode cX8_depthOf 8 = .ok (.iconst 0, 1) := by decide +kernel
theorem dX8_depthOf_9 : decode cX8_depthOf 9 = .ok (.istore 4, 2) := by decide +kernel
theorem dX8_depthOf_11 : decode cX8_depthOf 11 = .ok (.iload 4, 2) := by decide +kernel
theorem dX8_depthOf_13 : decode cX8_depthOf 13 = .ok (.aload_n 0, 1) := by decide +kernel
theorem dX8_depthOf_14 : decode cX8_depthOf 14 = .ok (.getfield 7, 3) := by decide +kernel
theorem dX8_depthOf_17 : decode cX8_depthOf 17 = .ok (.iconst 0, 1) := by decide +kernel
theorem dX8_depthOf_18 : decode cX8_depthOf 18 = .ok (.iaload, 1) := by decide +kernel
theorem dX8_depthOf_19 : decode cX8_depthOf 19 = .ok (.if_icmp .ge 61, 3) := by decide +kernel
theorem dX8_depthOf_22 : decode cX8_depthOf 22 = .ok (.aload_n 0, 1) := by decide +kernel
theorem dX8_depthOf_23 : decode cX8_depthOf 23 = .ok (.iload_n 1, 1) := by decide +kernel
theorem dX8_depthOf_24 : decode cX8_depthOf 24 = .ok (.iload 4, 2) := by decide +kernel
theorem dX8_depthOf_26 : decode cX8_depthOf 26 = .ok (.invokevirtual 155, 3) := by decide +kernel
theorem dX8_depthOf_29 : decode cX8_depthOf 29 = .ok (.istore 5, 2) := by decide +kernel
theorem dX8_depthOf_31 : decode cX8_depthOf 31 = .ok (.iload 5, 2) := by decide +kernel
theorem dX8_depthOf_33 : decode cX8_depthOf 33 = .ok (.bipush (-9), 2) := by decide +kernel
theorem dX8_depthOf_35 : decode cX8_depthOf 35 = .ok (.if_icmp .eq 39, 3) := by decide +kernel
theorem dX8_depthOf_38 : decode cX8_depthOf 38 = .ok (.aload_n 0, 1) := by decide +kernel
theorem dX8_depthOf_39 : decode cX8_depthOf 39 = .ok (.iload 4, 2) := by decide +kernel
theorem dX8_depthOf_41 : decode cX8_depthOf 41 = .ok (.iload 5, 2) := by decide +kernel
theorem dX8_depthOf_43 : decode cX8_depthOf 43 = .ok (.invokevirtual 121, 3) := by decide +kernel
theorem dX8_depthOf_46 : decode cX8_depthOf 46 = .ok (.istore 6, 2) := by decide +kernel
theorem dX8_depthOf_48 : decode cX8_depthOf 48 = .ok (.iload 6, 2) := by decide +kernel
theorem dX8_depthOf_50 : decode cX8_depthOf 50 = .ok (.iload_n 2, 1) := by decide +kernel
theorem dX8_depthOf_51 : decode cX8_depthOf 51 = .ok (.if_icmp .ge 8, 3) := by decide +kernel
theorem dX8_depthOf_54 : decode cX8_depthOf 54 = .ok (.iload 6, 2) := by decide +kernel
theorem dX8_depthOf_56 : decode cX8_depthOf 56 = .ok (.goto 4, 3) := by decide +kernel
theorem dX8_depthOf_59 : decode cX8_depthOf 59 = .ok (.iload_n 2, 1) := by decide +kernel
theorem dX8_depthOf_60 : decode cX8_depthOf 60 = .ok (.istore_n 2, 1) := by decide +kernel
theorem dX8_depthOf_61 : decode cX8_depthOf 61 = .ok (.iload 6, 2) := by decide +kernel
theorem dX8_depthOf_63 : decode cX8_depthOf 63 = .ok (.iload_n 3, 1) := by decide +kernel
theorem dX8_depthOf_64 : decode cX8_depthOf 64 = .ok (.if_icmp .le 8, 3) := by decide +kernel
theorem dX8_depthOf_67 : decode cX8_depthOf 67 = .ok (.iload 6, 2) := by decide +kernel
theorem dX8_depthOf_69 : decode cX8_depthOf 69 = .ok (.goto 4, 3) := by decide +kernel
theorem dX8_depthOf_72 : decode cX8_depthOf 72 = .ok (.iload_n 3, 1) := by decide +kernel
theorem dX8_depthOf_73 : decode cX8_depthOf 73 = .ok (.istore_n 3, 1) := by decide +kernel
theorem dX8_depthOf_74 : decode cX8_depthOf 74 = .ok (.iinc 4 1, 3) := by decide +kernel
theorem dX8_depthOf_77 : decode cX8_depthOf 77 = .ok (.goto (-66), 3) := by decide +kernel
theorem dX8_depthOf_80 : decode cX8_depthOf 80 = .ok (.iload_n 3, 1) := by decide +kernel
theorem dX8_depthOf_81 : decode cX8_depthOf 81 = .ok (.iload_n 2, 1) := by decide +kernel
theorem dX8_depthOf_82 : decode cX8_depthOf 82 = .ok (.isub, 1) := by decide +kernel
theorem dX8_depthOf_83 : decode cX8_depthOf 83 = .ok (.ireturn, 1) := by decide +kernel
theorem dX8_laysSteps_0 : decode cX8_laysSteps 0 = .ok (.aload_n 0, 1) := by decide +kernel
theorem dX8_laysSteps_1 : decode cX8_laysSteps 1 = .ok (.iload_n 1, 1) := by decide +kernel
theorem dX8_laysSteps_2 : decode cX8_laysSteps 2 = .ok (.invokevirtual 158, 3) := by decide +kernel
theorem dX8_laysSteps_5 : decode cX8_laysSteps 5 = .ok (.istore_n 2, 1) := by decide +kernel
theorem dX8_laysSteps_6 : decode cX8_laysSteps 6 = .ok (.iload_n 2, 1) := by decide +kernel
theorem dX8_laysSteps_7 : decode cX8_laysSteps 7 = .ok (.aload_n 0, 1) := by decide +kernel
theorem dX8_laysSteps_8 : decode cX8_laysSteps 8 = .ok (.iload_n 1, 1) := by decide +kernel
theorem dX8_laysSteps_9 : decode cX8_laysSteps 9 = .ok (.invokevirtual 161, 3) := by decide +kernel
theorem dX8_laysSteps_12 : decode cX8_laysSteps 12 = .ok (.iadd, 1) := by decide +kernel
theorem dX8_laysSteps_13 : decode cX8_laysSteps 13 = .ok (.iconst 1, 1) := by decide +kernel
theorem dX8_laysSteps_14 : decode cX8_laysSteps 14 = .ok (.isub, 1) := by decide +kernel
theorem dX8_laysSteps_15 : decode cX8_laysSteps 15 = .ok (.istore_n 3, 1) := by decide +kernel
theorem dX8_laysSteps_16 : decode cX8_laysSteps 16 = .ok (.iconst 0, 1) := by decide +kernel
theorem dX8_laysSteps_17 : decode cX8_laysSteps 17 = .ok (.istore 4, 2) := by decide +kernel
theorem dX8_laysSteps_19 : decode cX8_laysSteps 19 = .ok (.aload_n 0, 1) := by decide +kernel
theorem dX8_laysSteps_20 : decode cX8_laysSteps 20 = .ok (.iconst 0, 1) := by decide +kernel
theorem dX8_laysSteps_21 : decode cX8_laysSteps 21 = .ok (.putfield 164, 3) := by decide +kernel
theorem dX8_laysSteps_24 : decode cX8_laysSteps 24 = .ok (.aload_n 0, 1) := by decide +kernel
theorem dX8_laysSteps_25 : decode cX8_laysSteps 25 = .ok (.iconst 0, 1) := by decide +kernel
theorem dX8_laysSteps_26 : decode cX8_laysSteps 26 = .ok (.putfield 167, 3) := by decide +kernel
theorem dX8_laysSteps_29 : decode cX8_laysSteps 29 = .ok (.iload_n 2, 1) := by decide +kernel
theorem dX8_laysSteps_30 : decode cX8_laysSteps 30 = .ok (.istore 5, 2) := by decide +kernel
theorem dX8_laysSteps_32 : decode cX8_laysSteps 32 = .ok (.iload 5, 2) := by decide +kernel
theorem dX8_laysSteps_34 : decode cX8_laysSteps 34 = .ok (.iload_n 3, 1) := by decide +kernel
theorem dX8_laysSteps_35 : decode cX8_laysSteps 35 = .ok (.if_icmp .ge 95, 3) := by decide +kernel
theorem dX8_laysSteps_38 : decode cX8_laysSteps 38 = .ok (.aload_n 0, 1) := by decide +kernel
theorem dX8_laysSteps_39 : decode cX8_laysSteps 39 = .ok (.iload 5, 2) := by decide +kernel
theorem dX8_laysSteps_41 : decode cX8_laysSteps 41 = .ok (.iconst 1, 1) := by decide +kernel
theorem dX8_laysSteps_42 : decode cX8_laysSteps 42 = .ok (.iadd, 1) := by decide +kernel
theorem dX8_laysSteps_43 : decode cX8_laysSteps 43 = .ok (.aload_n 0, 1) := by decide +kernel
theorem dX8_laysSteps_44 : decode cX8_laysSteps 44 = .ok (.iload_n 1, 1) := by decide +kernel
theorem dX8_laysSteps_45 : decode cX8_laysSteps 45 = .ok (.iload 5, 2) := by decide +kernel
theorem dX8_laysSteps_47 : decode cX8_laysSteps 47 = .ok (.iconst 1, 1) := by decide +kernel
theorem dX8_laysSteps_48 : decode cX8_laysSteps 48 = .ok (.iadd, 1) := by decide +kernel
theorem dX8_laysSteps_49 : decode cX8_laysSteps 49 = .ok (.invokevirtual 155, 3) := by decide +kernel
theorem dX8_laysSteps_52 : decode cX8_laysSteps 52 = .ok (.invokevirtual 121, 3) := by decide +kernel
theorem dX8_laysSteps_55 : decode cX8_laysSteps 55 = .ok (.aload_n 0, 1) := by decide +kernel
theorem dX8_laysSteps_56 : decode cX8_laysSteps 56 = .ok (.iload 5, 2) := by decide +kernel
theorem dX8_laysSteps_58 : decode cX8_laysSteps 58 = .ok (.aload_n 0, 1) := by decide +kernel
theorem dX8_laysSteps_59 : decode cX8_laysSteps 59 = .ok (.iload_n 1, 1) := by decide +kernel
theorem dX8_laysSteps_60 : decode cX8_laysSteps 60 = .ok (.iload 5, 2) := by decide +kernel
theorem dX8_laysSteps_62 : decode cX8_laysSteps 62 = .ok (.invokevirtual 155, 3) := by decide +kernel
theorem dX8_laysSteps_65 : decode cX8_laysSteps 65 = .ok (.invokevirtual 121, 3) := by decide +kernel
theorem dX8_laysSteps_68 : decode cX8_laysSteps 68 = .ok (.isub, 1) := by decide +kernel
theorem dX8_laysSteps_69 : decode cX8_laysSteps 69 = .ok (.istore 6, 2) := by decide +kernel
theorem dX8_laysSteps_71 : decode cX8_laysSteps 71 = .ok (.iload 6, 2) := by decide +kernel
theorem dX8_laysSteps_73 : decode cX8_laysSteps 73 = .ok (.ifCond .eq 51, 3) := by decide +kernel
theorem dX8_laysSteps_76 : decode cX8_laysSteps 76 = .ok (.iload 6, 2) := by decide +kernel
theorem dX8_laysSteps_78 : decode cX8_laysSteps 78 = .ok (.ifCond .le 7, 3) := by decide +kernel
theorem dX8_laysSteps_81 : decode cX8_laysSteps 81 = .ok (.iconst 1, 1) := by decide +kernel
theorem dX8_laysSteps_82 : decode cX8_laysSteps 82 = .ok (.goto 4, 3) := by decide +kernel
theorem dX8_laysSteps_85 : decode cX8_laysSteps 85 = .ok (.iconst (-1), 1) := by decide +kernel
theorem dX8_laysSteps_86 : decode cX8_laysSteps 86 = .ok (.istore 7, 2) := by decide +kernel
theorem dX8_laysSteps_88 : decode cX8_laysSteps 88 = .ok (.aload_n 0, 1) := by decide +kernel
theorem dX8_laysSteps_89 : decode cX8_laysSteps 89 = .ok (.dup, 1) := by decide +kernel
theorem dX8_laysSteps_90 : decode cX8_laysSteps 90 = .ok (.getfield 167, 3) := by decide +kernel
theorem dX8_laysSteps_93 : decode cX8_laysSteps 93 = .ok (.iload 7, 2) := by decide +kernel
theorem dX8_laysSteps_95 : decode cX8_laysSteps 95 = .ok (.iload 4, 2) := by decide +kernel
theorem dX8_laysSteps_97 : decode cX8_laysSteps 97 = .ok (.iadd, 1) := by decide +kernel
theorem dX8_laysSteps_98 : decode cX8_laysSteps 98 = .ok (.ifCond .ne 7, 3) := by decide +kernel
theorem dX8_laysSteps_101 : decode cX8_laysSteps 101 = .ok (.iconst 1, 1) := by decide +kernel
theorem dX8_laysSteps_102 : decode cX8_laysSteps 102 = .ok (.goto 4, 3) := by decide +kernel
theorem dX8_laysSteps_105 : decode cX8_laysSteps 105 = .ok (.iconst 0, 1) := by decide +kernel
theorem dX8_laysSteps_106 : decode cX8_laysSteps 106 = .ok (.iadd, 1) := by decide +kernel
theorem dX8_laysSteps_107 : decode cX8_laysSteps 107 = .ok (.putfield 167, 3) := by decide +kernel
theorem dX8_laysSteps_110 : decode cX8_laysSteps 110 = .ok (.aload_n 0, 1) := by decide +kernel
theorem dX8_laysSteps_111 : decode cX8_laysSteps 111 = .ok (.dup, 1) := by decide +kernel
theorem dX8_laysSteps_112 : decode cX8_laysSteps 112 = .ok (.getfield 164, 3) := by decide +kernel
theorem dX8_laysSteps_115 : decode cX8_laysSteps 115 = .ok (.iconst 1, 1) := by decide +kernel
theorem dX8_laysSteps_116 : decode cX8_laysSteps 116 = .ok (.iadd, 1) := by decide +kernel
theorem dX8_laysSteps_117 : decode cX8_laysSteps 117 = .ok (.putfield 164, 3) := by decide +kernel
theorem dX8_laysSteps_120 : decode cX8_laysSteps 120 = .ok (.iload 7, 2) := by decide +kernel
theorem dX8_laysSteps_122 : decode cX8_laysSteps 122 = .ok (.istore 4, 2) := by decide +kernel
theorem dX8_laysSteps_124 : decode cX8_laysSteps 124 = .ok (.iinc 5 1, 3) := by decide +kernel
theorem dX8_laysSteps_127 : decode cX8_laysSteps 127 = .ok (.goto (-95), 3) := by decide +kernel
theorem dX8_laysSteps_130 : decode cX8_laysSteps 130 = .ok (.return_, 1) := by decide +kernel
theorem dX8_turnsOf_0 : decode cX8_turnsOf 0 = .ok (.aload_n 0, 1) := by decide +kernel
theorem dX8_turnsOf_1 : decode cX8_turnsOf 1 = .ok (.iload_n 1, 1) := by decide +kernel
theorem dX8_turnsOf_2 : decode cX8_turnsOf 2 = .ok (.invokevirtual 170, 3) := by decide +kernel
theorem dX8_turnsOf_5 : decode cX8_turnsOf 5 = .ok (.aload_n 0, 1) := by decide +kernel
theorem dX8_turnsOf_6 : decode cX8_turnsOf 6 = .ok (.getfield 167, 3) := by decide +kernel
theorem dX8_turnsOf_9 : decode cX8_turnsOf 9 = .ok (.ireturn, 1) := by decide +kernel
theorem dX8_kindOf_0 : decode cX8_kindOf 0 = .ok (.aload_n 0, 1) := by decide +kernel
theorem dX8_kindOf_1 : decode cX8_kindOf 1 = .ok (.iload_n 1, 1) := by decide +kernel
theorem dX8_kindOf_2 : decode cX8_kindOf 2 = .ok (.invokevirtual 173, 3) := by decide +kernel
theorem dX8_kindOf_5 : decode cX8_kindOf 5 = .ok (.iconst 1, 1) := by decide +kernel
theorem dX8_kindOf_6 : decode cX8_kindOf 6 = .ok (.if_icmp .gt 5, 3) := by decide +kernel
theorem dX8_kindOf_9 : decode cX8_kindOf 9 = .ok (.iconst 0, 1) := by decide +kernel
theorem dX8_kindOf_10 : decode cX8_kindOf 10 = .ok (.ireturn, 1) := by decide +kernel
theorem dX8_kindOf_11 : decode cX8_kindOf 11 = .ok (.aload_n 0, 1) := by decide +kernel
theorem dX8_kindOf_12 : decode cX8_kindOf 12 = .ok (.iload_n 1, 1) := by decide +kernel
theorem dX8_kindOf_13 : decode cX8_kindOf 13 = .ok (.invokevirtual 170, 3) := by decide +kernel
theorem dX8_kindOf_16 : decode cX8_kindOf 16 = .ok (.aload_n 0, 1) := by decide +kernel
theorem dX8_kindOf_17 : decode cX8_kindOf 17 = .ok (.getfield 167, 3) := by decide +kernel
theorem dX8_kindOf_20 : decode cX8_kindOf 20 = .ok (.ifCond .ne 7, 3) := by decide +kernel
theorem dX8_kindOf_23 : decode cX8_kindOf 23 = .ok (.iconst 1, 1) := by decide +kernel
theorem dX8_kindOf_24 : decode cX8_kindOf 24 = .ok (.goto 21, 3) := by decide +kernel
theorem dX8_kindOf_27 : decode cX8_kindOf 27 = .ok (.iconst 2, 1) := by decide +kernel
theorem dX8_kindOf_28 : decode cX8_kindOf 28 = .ok (.aload_n 0, 1) := by decide +kernel
theorem dX8_kindOf_29 : decode cX8_kindOf 29 = .ok (.getfield 167, 3) := by decide +kernel
theorem dX8_kindOf_32 : decode cX8_kindOf 32 = .ok (.imul, 1) := by decide +kernel
theorem dX8_kindOf_33 : decode cX8_kindOf 33 = .ok (.aload_n 0, 1) := by decide +kernel
theorem dX8_kindOf_34 : decode cX8_kindOf 34 = .ok (.getfield 164, 3) := by decide +kernel
theorem dX8_kindOf_37 : decode cX8_kindOf 37 = .ok (.if_icmp .lt 7, 3) := by decide +kernel
theorem dX8_kindOf_40 : decode cX8_kindOf 40 = .ok (.iconst 2, 1) := by decide +kernel
theorem dX8_kindOf_41 : decode cX8_kindOf 41 = .ok (.goto 4, 3) := by decide +kernel
theorem dX8_kindOf_44 : decode cX8_kindOf 44 = .ok (.iconst 3, 1) := by decide +kernel
theorem dX8_kindOf_45 : decode cX8_kindOf 45 = .ok (.ireturn, 1) := by decide +kernel
theorem dX8_worthOfTrack_0 : decode cX8_worthOfTrack 0 = .ok (.iconst 0, 1) := by decide +kernel
theorem dX8_worthOfTrack_1 : decode cX8_worthOfTrack 1 = .ok (.istore_n 2, 1) := by decide +kernel
theorem dX8_worthOfTrack_2 : decode cX8_worthOfTrack 2 = .ok (.iconst 0, 1) := by decide +kernel
theorem dX8_worthOfTrack_3 : decode cX8_worthOfTrack 3 = .ok (.istore_n 3, 1) := by decide +kernel
theorem dX8_worthOfTrack_4 : decode cX8_worthOfTrack 4 = .ok (.iload_n 3, 1) := by decide +kernel
theorem dX8_worthOfTrack_5 : decode cX8_worthOfTrack 5 = .ok (.aload_n 0, 1) := by decide +kernel
theorem dX8_worthOfTrack_6 : decode cX8_worthOfTrack 6 = .ok (.getfield 7, 3) := by decide +kernel
theorem dX8_worthOfTrack_9 : decode cX8_worthOfTrack 9 = .ok (.iconst 0, 1) := by decide +kernel
theorem dX8_worthOfTrack_10 : decode cX8_worthOfTrack 10 = .ok (.iaload, 1) := by decide +kernel
theorem dX8_worthOfTrack_11 : decode cX8_worthOfTrack 11 = .ok (.if_icmp .ge 38, 3) := by decide +kernel
theorem dX8_worthOfTrack_14 : decode cX8_worthOfTrack 14 = .ok (.aload_n 0, 1) := by decide +kernel
theorem dX8_worthOfTrack_15 : decode cX8_worthOfTrack 15 = .ok (.iload_n 1, 1) := by decide +kernel
theorem dX8_worthOfTrack_16 : decode cX8_worthOfTrack 16 = .ok (.iload_n 3, 1) := by decide +kernel
theorem dX8_worthOfTrack_17 : decode cX8_worthOfTrack 17 = .ok (.invokevirtual 155, 3) := by decide +kernel
theorem dX8_worthOfTrack_20 : decode cX8_worthOfTrack 20 = .ok (.istore 4, 2) := by decide +kernel
theorem dX8_worthOfTrack_22 : decode cX8_worthOfTrack 22 = .ok (.iload_n 2, 1) := by decide +kernel
theorem dX8_worthOfTrack_23 : decode cX8_worthOfTrack 23 = .ok (.iload 4, 2) := by decide +kernel
theorem dX8_worthOfTrack_25 : decode cX8_worthOfTrack 25 = .ok (.bipush (-9), 2) := by decide +kernel
theorem dX8_worthOfTrack_27 : decode cX8_worthOfTrack 27 = .ok (.if_icmp .ne 7, 3) := by decide +kernel
theorem dX8_worthOfTrack_30 : decode cX8_worthOfTrack 30 = .ok (.iconst 0, 1) := by decide +kernel
theorem dX8_worthOfTrack_31 : decode cX8_worthOfTrack 31 = .ok (.goto 10, 3) := by decide +kernel
theorem dX8_worthOfTrack_34 : decode cX8_worthOfTrack 34 = .ok (.aload_n 0, 1) := by decide +kernel
theorem dX8_worthOfTrack_35 : decode cX8_worthOfTrack 35 = .ok (.iload_n 3, 1) := by decide +kernel
theorem dX8_worthOfTrack_36 : decode cX8_worthOfTrack 36 = .ok (.iload 4, 2) := by decide +kernel
theorem dX8_worthOfTrack_38 : decode cX8_worthOfTrack 38 = .ok (.invokevirtual 176, 3) := by decide +kernel
theorem dX8_worthOfTrack_41 : decode cX8_worthOfTrack 41 = .ok (.iadd, 1) := by decide +kernel
theorem dX8_worthOfTrack_42 : decode cX8_worthOfTrack 42 = .ok (.istore_n 2, 1) := by decide +kernel
theorem dX8_worthOfTrack_43 : decode cX8_worthOfTrack 43 = .ok (.iinc 3 1, 3) := by decide +kernel
theorem dX8_worthOfTrack_46 : decode cX8_worthOfTrack 46 = .ok (.goto (-42), 3) := by decide +kernel
theorem dX8_worthOfTrack_49 : decode cX8_worthOfTrack 49 = .ok (.iload_n 2, 1) := by decide +kernel
theorem dX8_worthOfTrack_50 : decode cX8_worthOfTrack 50 = .ok (.aload_n 0, 1) := by decide +kernel
theorem dX8_worthOfTrack_51 : decode cX8_worthOfTrack 51 = .ok (.iload_n 1, 1) := by decide +kernel
theorem dX8_worthOfTrack_52 : decode cX8_worthOfTrack 52 = .ok (.invokevirtual 179, 3) := by decide +kernel
theorem dX8_worthOfTrack_55 : decode cX8_worthOfTrack 55 = .ok (.iconst 1, 1) := by decide +kernel
theorem dX8_worthOfTrack_56 : decode cX8_worthOfTrack 56 = .ok (.iadd, 1) := by decide +kernel
theorem dX8_worthOfTrack_57 : decode cX8_worthOfTrack 57 = .ok (.imul, 1) := by decide +kernel
theorem dX8_worthOfTrack_58 : decode cX8_worthOfTrack 58 = .ok (.aload_n 0, 1) := by decide +kernel
theorem dX8_worthOfTrack_59 : decode cX8_worthOfTrack 59 = .ok (.iload_n 1, 1) := by decide +kernel
theorem dX8_worthOfTrack_60 : decode cX8_worthOfTrack 60 = .ok (.invokevirtual 173, 3) := by decide +kernel
theorem dX8_worthOfTrack_63 : decode cX8_worthOfTrack 63 = .ok (.isub, 1) := by decide +kernel
theorem dX8_worthOfTrack_64 : decode cX8_worthOfTrack 64 = .ok (.ireturn, 1) := by decide +kernel
theorem dX8_level_0 : decode cX8_level 0 = .ok (.aload_n 0, 1) := by decide +kernel
theorem dX8_level_1 : decode cX8_level 1 = .ok (.iconst 0, 1) := by decide +kernel
theorem dX8_level_2 : decode cX8_level 2 = .ok (.putfield 52, 3) := by decide +kernel
theorem dX8_level_5 : decode cX8_level 5 = .ok (.aload_n 0, 1) := by decide +kernel
theorem dX8_level_6 : decode cX8_level 6 = .ok (.iload_n 1, 1) := by decide +kernel
theorem dX8_level_7 : decode cX8_level 7 = .ok (.iload_n 2, 1) := by decide +kernel
theorem dX8_level_8 : decode cX8_level 8 = .ok (.invokevirtual 110, 3) := by decide +kernel
theorem dX8_level_11 : decode cX8_level 11 = .ok (.ifCond .eq 12, 3) := by decide +kernel
theorem dX8_level_14 : decode cX8_level 14 = .ok (.aload_n 0, 1) := by decide +kernel
theorem dX8_level_15 : decode cX8_level 15 = .ok (.iload_n 1, 1) := by decide +kernel
theorem dX8_level_16 : decode cX8_level 16 = .ok (.iload_n 2, 1) := by decide +kernel
theorem dX8_level_17 : decode cX8_level 17 = .ok (.invokevirtual 118, 3) := by decide +kernel
theorem dX8_level_20 : decode cX8_level 20 = .ok (.goto 4, 3) := by decide +kernel
theorem dX8_level_23 : decode cX8_level 23 = .ok (.iconst (-1), 1) := by decide +kernel
theorem dX8_level_24 : decode cX8_level 24 = .ok (.ireturn, 1) := by decide +kernel
theorem dX8_peak_0 : decode cX8_peak 0 = .ok (.aload_n 0, 1) := by decide +kernel
theorem dX8_peak_1 : decode cX8_peak 1 = .ok (.iconst 0, 1) := by decide +kernel
theorem dX8_peak_2 : decode cX8_peak 2 = .ok (.putfield 52, 3) := by decide +kernel
theorem dX8_peak_5 : decode cX8_peak 5 = .ok (.iload_n 1, 1) := by decide +kernel
theorem dX8_peak_6 : decode cX8_peak 6 = .ok (.iconst 0, 1) := by decide +kernel
theorem dX8_peak_7 : decode cX8_peak 7 = .ok (.aload_n 0, 1) := by decide +kernel
theorem dX8_peak_8 : decode cX8_peak 8 = .ok (.getfield 7, 3) := by decide +kernel
theorem dX8_peak_11 : decode cX8_peak 11 = .ok (.iconst 0, 1) := by decide +kernel
theorem dX8_peak_12 : decode cX8_peak 12 = .ok (.iaload, 1) := by decide +kernel
theorem dX8_peak_13 : decode cX8_peak 13 = .ok (.iconst 1, 1) := by decide +kernel
theorem dX8_peak_14 : decode cX8_peak 14 = .ok (.isub, 1) := by decide +kernel
theorem dX8_peak_15 : decode cX8_peak 15 = .ok (.invokestatic 56, 3) := by decide +kernel
theorem dX8_peak_18 : decode cX8_peak 18 = .ok (.ifCond .eq 16, 3) := by decide +kernel
theorem dX8_peak_21 : decode cX8_peak 21 = .ok (.iload_n 2, 1) := by decide +kernel
theorem dX8_peak_22 : decode cX8_peak 22 = .ok (.ifCond .lt 12, 3) := by decide +kernel
theorem dX8_peak_25 : decode cX8_peak 25 = .ok (.iload_n 3, 1) := by decide +kernel
theorem dX8_peak_26 : decode cX8_peak 26 = .ok (.iconst 0, 1) := by decide +kernel
theorem dX8_peak_27 : decode cX8_peak 27 = .ok (.iconst 4, 1) := by decide +kernel
theorem dX8_peak_28 : decode cX8_peak 28 = .ok (.invokestatic 56, 3) := by decide +kernel
theorem dX8_peak_31 : decode cX8_peak 31 = .ok (.ifCond .ne 6, 3) := by decide +kernel
theorem dX8_peak_34 : decode cX8_peak 34 = .ok (.ldc 182, 2) := by decide +kernel
theorem dX8_peak_36 : decode cX8_peak 36 = .ok (.ireturn, 1) := by decide +kernel
theorem dX8_peak_37 : decode cX8_peak 37 = .ok (.aload_n 0, 1) := by decide +kernel
theorem dX8_peak_38 : decode cX8_peak 38 = .ok (.invokevirtual 183, 3) := by decide +kernel
theorem dX8_peak_41 : decode cX8_peak 41 = .ok (.iload_n 2, 1) := by decide +kernel
theorem dX8_peak_42 : decode cX8_peak 42 = .ok (.aload_n 0, 1) := by decide +kernel
theorem dX8_peak_43 : decode cX8_peak 43 = .ok (.getfield 33, 3) := by decide +kernel
theorem dX8_peak_46 : decode cX8_peak 46 = .ok (.iload_n 1, 1) := by decide +kernel
theorem dX8_peak_47 : decode cX8_peak 47 = .ok (.iaload, 1) := by decide +kernel
theorem dX8_peak_48 : decode cX8_peak 48 = .ok (.if_icmp .lt 6, 3) := by decide +kernel
theorem dX8_peak_51 : decode cX8_peak 51 = .ok (.bipush (-9), 2) := by decide +kernel
theorem dX8_peak_53 : decode cX8_peak 53 = .ok (.ireturn, 1) := by decide +kernel
theorem dX8_peak_54 : decode cX8_peak 54 = .ok (.iload_n 3, 1) := by decide +kernel
theorem dX8_peak_55 : decode cX8_peak 55 = .ok (.tableswitch 67 0 3 #[29, 41, 48, 55], 29) := by decide +kernel
theorem dX8_peak_84 : decode cX8_peak 84 = .ok (.aload_n 0, 1) := by decide +kernel
theorem dX8_peak_85 : decode cX8_peak 85 = .ok (.getfield 36, 3) := by decide +kernel
theorem dX8_peak_88 : decode cX8_peak 88 = .ok (.bipush 6, 2) := by decide +kernel
theorem dX8_peak_90 : decode cX8_peak 90 = .ok (.iload_n 1, 1) := by decide +kernel
theorem dX8_peak_91 : decode cX8_peak 91 = .ok (.imul, 1) := by decide +kernel
theorem dX8_peak_92 : decode cX8_peak 92 = .ok (.iload_n 2, 1) := by decide +kernel
theorem dX8_peak_93 : decode cX8_peak 93 = .ok (.iadd, 1) := by decide +kernel
theorem dX8_peak_94 : decode cX8_peak 94 = .ok (.iaload, 1) := by decide +kernel
theorem dX8_peak_95 : decode cX8_peak 95 = .ok (.ireturn, 1) := by decide +kernel
theorem dX8_peak_96 : decode cX8_peak 96 = .ok (.aload_n 0, 1) := by decide +kernel
theorem dX8_peak_97 : decode cX8_peak 97 = .ok (.iload_n 1, 1) := by decide +kernel
theorem dX8_peak_98 : decode cX8_peak 98 = .ok (.iload_n 2, 1) := by decide +kernel
theorem dX8_peak_99 : decode cX8_peak 99 = .ok (.invokevirtual 121, 3) := by decide +kernel
theorem dX8_peak_102 : decode cX8_peak 102 = .ok (.ireturn, 1) := by decide +kernel
theorem dX8_peak_103 : decode cX8_peak 103 = .ok (.aload_n 0, 1) := by decide +kernel
theorem dX8_peak_104 : decode cX8_peak 104 = .ok (.iload_n 1, 1) := by decide +kernel
theorem dX8_peak_105 : decode cX8_peak 105 = .ok (.iload_n 2, 1) := by decide +kernel
theorem dX8_peak_106 : decode cX8_peak 106 = .ok (.invokevirtual 176, 3) := by decide +kernel
theorem dX8_peak_109 : decode cX8_peak 109 = .ok (.ireturn, 1) := by decide +kernel
theorem dX8_peak_110 : decode cX8_peak 110 = .ok (.aload_n 0, 1) := by decide +kernel
theorem dX8_peak_111 : decode cX8_peak 111 = .ok (.getfield 42, 3) := by decide +kernel
theorem dX8_peak_114 : decode cX8_peak 114 = .ok (.bipush 6, 2) := by decide +kernel
theorem dX8_peak_116 : decode cX8_peak 116 = .ok (.iload_n 1, 1) := by decide +kernel
theorem dX8_peak_117 : decode cX8_peak 117 = .ok (.imul, 1) := by decide +kernel
theorem dX8_peak_118 : decode cX8_peak 118 = .ok (.iload_n 2, 1) := by decide +kernel
theorem dX8_peak_119 : decode cX8_peak 119 = .ok (.iadd, 1) := by decide +kernel
theorem dX8_peak_120 : decode cX8_peak 120 = .ok (.iaload, 1) := by decide +kernel
theorem dX8_peak_121 : decode cX8_peak 121 = .ok (.ireturn, 1) := by decide +kernel
theorem dX8_peak_122 : decode cX8_peak 122 = .ok (.aload_n 0, 1) := by decide +kernel
theorem dX8_peak_123 : decode cX8_peak 123 = .ok (.getfield 39, 3) := by decide +kernel
theorem dX8_peak_126 : decode cX8_peak 126 = .ok (.bipush 6, 2) := by decide +kernel
theorem dX8_peak_128 : decode cX8_peak 128 = .ok (.iload_n 1, 1) := by decide +kernel
theorem dX8_peak_129 : decode cX8_peak 129 = .ok (.imul, 1) := by decide +kernel
theorem dX8_peak_130 : decode cX8_peak 130 = .ok (.iload_n 2, 1) := by decide +kernel
theorem dX8_peak_131 : decode cX8_peak 131 = .ok (.iadd, 1) := by decide +kernel
theorem dX8_peak_132 : decode cX8_peak 132 = .ok (.iaload, 1) := by decide +kernel
theorem dX8_peak_133 : decode cX8_peak 133 = .ok (.ireturn, 1) := by decide +kernel
theorem dX8_sumOf_0 : decode cX8_sumOf 0 = .ok (.iconst 0, 1) := by decide +kernel
theorem dX8_sumOf_1 : decode cX8_sumOf 1 = .ok (.istore_n 3, 1) := by decide +kernel
theorem dX8_sumOf_2 : decode cX8_sumOf 2 = .ok (.iconst 0, 1) := by decide +kernel
theorem dX8_sumOf_3 : decode cX8_sumOf 3 = .ok (.istore 4, 2) := by decide +kernel
theorem dX8_sumOf_5 : decode cX8_sumOf 5 = .ok (.iload 4, 2) := by decide +kernel
theorem dX8_sumOf_7 : decode cX8_sumOf 7 = .ok (.aload_n 0, 1) := by decide +kernel
theorem dX8_sumOf_8 : decode cX8_sumOf 8 = .ok (.getfield 33, 3) := by decide +kernel
theorem dX8_sumOf_11 : decode cX8_sumOf 11 = .ok (.iload_n 1, 1) := by decide +kernel
theorem dX8_sumOf_12 : decode cX8_sumOf 12 = .ok (.iaload, 1) := by decide +kernel
theorem dX8_sumOf_13 : decode cX8_sumOf 13 = .ok (.if_icmp .ge 61, 3) := by decide +kernel
theorem dX8_sumOf_16 : decode cX8_sumOf 16 = .ok (.aload_n 0, 1) := by decide +kernel
theorem dX8_sumOf_17 : decode cX8_sumOf 17 = .ok (.aload_n 0, 1) := by decide +kernel
theorem dX8_sumOf_18 : decode cX8_sumOf 18 = .ok (.getfield 42, 3) := by decide +kernel
theorem dX8_sumOf_21 : decode cX8_sumOf 21 = .ok (.bipush 6, 2) := by decide +kernel
theorem dX8_sumOf_23 : decode cX8_sumOf 23 = .ok (.iload_n 1, 1) := by decide +kernel
theorem dX8_sumOf_24 : decode cX8_sumOf 24 = .ok (.imul, 1) := by decide +kernel
theorem dX8_sumOf_25 : decode cX8_sumOf 25 = .ok (.iload 4, 2) := by decide +kernel
theorem dX8_sumOf_27 : decode cX8_sumOf 27 = .ok (.iadd, 1) := by decide +kernel
theorem dX8_sumOf_28 : decode cX8_sumOf 28 = .ok (.iaload, 1) := by decide +kernel
theorem dX8_sumOf_29 : decode cX8_sumOf 29 = .ok (.invokevirtual 161, 3) := by decide +kernel
theorem dX8_sumOf_32 : decode cX8_sumOf 32 = .ok (.aload_n 0, 1) := by decide +kernel
theorem dX8_sumOf_33 : decode cX8_sumOf 33 = .ok (.getfield 7, 3) := by decide +kernel
theorem dX8_sumOf_36 : decode cX8_sumOf 36 = .ok (.iconst 4, 1) := by decide +kernel
theorem dX8_sumOf_37 : decode cX8_sumOf 37 = .ok (.iaload, 1) := by decide +kernel
theorem dX8_sumOf_38 : decode cX8_sumOf 38 = .ok (.if_icmp .lt 7, 3) := by decide +kernel
theorem dX8_sumOf_41 : decode cX8_sumOf 41 = .ok (.iconst 1, 1) := by decide +kernel
theorem dX8_sumOf_42 : decode cX8_sumOf 42 = .ok (.goto 4, 3) := by decide +kernel
theorem dX8_sumOf_45 : decode cX8_sumOf 45 = .ok (.iconst 0, 1) := by decide +kernel
theorem dX8_sumOf_46 : decode cX8_sumOf 46 = .ok (.istore 5, 2) := by decide +kernel
theorem dX8_sumOf_48 : decode cX8_sumOf 48 = .ok (.iload_n 3, 1) := by decide +kernel
theorem dX8_sumOf_49 : decode cX8_sumOf 49 = .ok (.iload 5, 2) := by decide +kernel
theorem dX8_sumOf_51 : decode cX8_sumOf 51 = .ok (.iload_n 2, 1) := by decide +kernel
theorem dX8_sumOf_52 : decode cX8_sumOf 52 = .ok (.if_icmp .ne 13, 3) := by decide +kernel
theorem dX8_sumOf_55 : decode cX8_sumOf 55 = .ok (.aload_n 0, 1) := by decide +kernel
theorem dX8_sumOf_56 : decode cX8_sumOf 56 = .ok (.iload_n 1, 1) := by decide +kernel
theorem dX8_sumOf_57 : decode cX8_sumOf 57 = .ok (.iload 4, 2) := by decide +kernel
theorem dX8_sumOf_59 : decode cX8_sumOf 59 = .ok (.invokevirtual 176, 3) := by decide +kernel
theorem dX8_sumOf_62 : decode cX8_sumOf 62 = .ok (.goto 4, 3) := by decide +kernel
theorem dX8_sumOf_65 : decode cX8_sumOf 65 = .ok (.iconst 0, 1) := by decide +kernel
theorem dX8_sumOf_66 : decode cX8_sumOf 66 = .ok (.iadd, 1) := by decide +kernel
theorem dX8_sumOf_67 : decode cX8_sumOf 67 = .ok (.istore_n 3, 1) := by decide +kernel
theorem dX8_sumOf_68 : decode cX8_sumOf 68 = .ok (.iinc 4 1, 3) := by decide +kernel
theorem dX8_sumOf_71 : decode cX8_sumOf 71 = .ok (.goto (-66), 3) := by decide +kernel
theorem dX8_sumOf_74 : decode cX8_sumOf 74 = .ok (.iload_n 3, 1) := by decide +kernel
theorem dX8_sumOf_75 : decode cX8_sumOf 75 = .ok (.ireturn, 1) := by decide +kernel
theorem dX8_bornIn_0 : decode cX8_bornIn 0 = .ok (.iconst 0, 1) := by decide +kernel
theorem dX8_bornIn_1 : decode cX8_bornIn 1 = .ok (.istore_n 3, 1) := by decide +kernel
theorem dX8_bornIn_2 : decode cX8_bornIn 2 = .ok (.iconst 0, 1) := by decide +kernel
theorem dX8_bornIn_3 : decode cX8_bornIn 3 = .ok (.istore 4, 2) := by decide +kernel
theorem dX8_bornIn_5 : decode cX8_bornIn 5 = .ok (.iload 4, 2) := by decide +kernel
theorem dX8_bornIn_7 : decode cX8_bornIn 7 = .ok (.aload_n 0, 1) := by decide +kernel
theorem dX8_bornIn_8 : decode cX8_bornIn 8 = .ok (.getfield 145, 3) := by decide +kernel
theorem dX8_bornIn_11 : decode cX8_bornIn 11 = .ok (.if_icmp .ge 48, 3) := by decide +kernel
theorem dX8_bornIn_14 : decode cX8_bornIn 14 = .ok (.aload_n 0, 1) := by decide +kernel
theorem dX8_bornIn_15 : decode cX8_bornIn 15 = .ok (.iload 4, 2) := by decide +kernel
theorem dX8_bornIn_17 : decode cX8_bornIn 17 = .ok (.invokevirtual 158, 3) := by decide +kernel
theorem dX8_bornIn_20 : decode cX8_bornIn 20 = .ok (.iload_n 2, 1) := by decide +kernel
theorem dX8_bornIn_21 : decode cX8_bornIn 21 = .ok (.ifCond .eq 14, 3) := by decide +kernel
theorem dX8_bornIn_24 : decode cX8_bornIn 24 = .ok (.aload_n 0, 1) := by decide +kernel
theorem dX8_bornIn_25 : decode cX8_bornIn 25 = .ok (.iload 4, 2) := by decide +kernel
theorem dX8_bornIn_27 : decode cX8_bornIn 27 = .ok (.invokevirtual 161, 3) := by decide +kernel
theorem dX8_bornIn_30 : decode cX8_bornIn 30 = .ok (.iconst 1, 1) := by decide +kernel
theorem dX8_bornIn_31 : decode cX8_bornIn 31 = .ok (.isub, 1) := by decide +kernel
theorem dX8_bornIn_32 : decode cX8_bornIn 32 = .ok (.goto 4, 3) := by decide +kernel
theorem dX8_bornIn_35 : decode cX8_bornIn 35 = .ok (.iconst 0, 1) := by decide +kernel
theorem dX8_bornIn_36 : decode cX8_bornIn 36 = .ok (.iadd, 1) := by decide +kernel
theorem dX8_bornIn_37 : decode cX8_bornIn 37 = .ok (.istore 5, 2) := by decide +kernel
theorem dX8_bornIn_39 : decode cX8_bornIn 39 = .ok (.iload_n 3, 1) := by decide +kernel
theorem dX8_bornIn_40 : decode cX8_bornIn 40 = .ok (.iload 5, 2) := by decide +kernel
theorem dX8_bornIn_42 : decode cX8_bornIn 42 = .ok (.iload_n 1, 1) := by decide +kernel
theorem dX8_bornIn_43 : decode cX8_bornIn 43 = .ok (.if_icmp .ne 7, 3) := by decide +kernel
theorem dX8_bornIn_46 : decode cX8_bornIn 46 = .ok (.iconst 1, 1) := by decide +kernel
theorem dX8_bornIn_47 : decode cX8_bornIn 47 = .ok (.goto 4, 3) := by decide +kernel
theorem dX8_bornIn_50 : decode cX8_bornIn 50 = .ok (.iconst 0, 1) := by decide +kernel
theorem dX8_bornIn_51 : decode cX8_bornIn 51 = .ok (.iadd, 1) := by decide +kernel
theorem dX8_bornIn_52 : decode cX8_bornIn 52 = .ok (.istore_n 3, 1) := by decide +kernel
theorem dX8_bornIn_53 : decode cX8_bornIn 53 = .ok (.iinc 4 1, 3) := by decide +kernel
theorem dX8_bornIn_56 : decode cX8_bornIn 56 = .ok (.goto (-51), 3) := by decide +kernel
theorem dX8_bornIn_59 : decode cX8_bornIn 59 = .ok (.iload_n 3, 1) := by decide +kernel
theorem dX8_bornIn_60 : decode cX8_bornIn 60 = .ok (.ireturn, 1) := by decide +kernel
theorem dX8_frame_0 : decode cX8_frame 0 = .ok (.aload_n 0, 1) := by decide +kernel
theorem dX8_frame_1 : decode cX8_frame 1 = .ok (.iconst 0, 1) := by decide +kernel
theorem dX8_frame_2 : decode cX8_frame 2 = .ok (.putfield 52, 3) := by decide +kernel
theorem dX8_frame_5 : decode cX8_frame 5 = .ok (.iload_n 1, 1) := by decide +kernel
theorem dX8_frame_6 : decode cX8_frame 6 = .ok (.iconst 0, 1) := by decide +kernel
theorem dX8_frame_7 : decode cX8_frame 7 = .ok (.aload_n 0, 1) := by decide +kernel
theorem dX8_frame_8 : decode cX8_frame 8 = .ok (.getfield 7, 3) := by decide +kernel
theorem dX8_frame_11 : decode cX8_frame 11 = .ok (.iconst 0, 1) := by decide +kernel
theorem dX8_frame_12 : decode cX8_frame 12 = .ok (.iaload, 1) := by decide +kernel
theorem dX8_frame_13 : decode cX8_frame 13 = .ok (.iconst 1, 1) := by decide +kernel
theorem dX8_frame_14 : decode cX8_frame 14 = .ok (.isub, 1) := by decide +kernel
theorem dX8_frame_15 : decode cX8_frame 15 = .ok (.invokestatic 56, 3) := by decide +kernel
theorem dX8_frame_18 : decode cX8_frame 18 = .ok (.ifCond .eq 12, 3) := by decide +kernel
theorem dX8_frame_21 : decode cX8_frame 21 = .ok (.iload_n 2, 1) := by decide +kernel
theorem dX8_frame_22 : decode cX8_frame 22 = .ok (.iconst 0, 1) := by decide +kernel
theorem dX8_frame_23 : decode cX8_frame 23 = .ok (.iconst 4, 1) := by decide +kernel
theorem dX8_frame_24 : decode cX8_frame 24 = .ok (.invokestatic 56, 3) := by decide +kernel
theorem dX8_frame_27 : decode cX8_frame 27 = .ok (.ifCond .ne 5, 3) := by decide +kernel
theorem dX8_frame_30 : decode cX8_frame 30 = .ok (.iconst (-1), 1) := by decide +kernel
theorem dX8_frame_31 : decode cX8_frame 31 = .ok (.ireturn, 1) := by decide +kernel
theorem dX8_frame_32 : decode cX8_frame 32 = .ok (.aload_n 0, 1) := by decide +kernel
theorem dX8_frame_33 : decode cX8_frame 33 = .ok (.invokevirtual 183, 3) := by decide +kernel
theorem dX8_frame_36 : decode cX8_frame 36 = .ok (.iload_n 2, 1) := by decide +kernel
theorem dX8_frame_37 : decode cX8_frame 37 = .ok (.ifCond .ne 12, 3) := by decide +kernel
theorem dX8_frame_40 : decode cX8_frame 40 = .ok (.aload_n 0, 1) := by decide +kernel
theorem dX8_frame_41 : decode cX8_frame 41 = .ok (.getfield 33, 3) := by decide +kernel
theorem dX8_frame_44 : decode cX8_frame 44 = .ok (.iload_n 1, 1) := by decide +kernel
theorem dX8_frame_45 : decode cX8_frame 45 = .ok (.iaload, 1) := by decide +kernel
theorem dX8_frame_46 : decode cX8_frame 46 = .ok (.goto 41, 3) := by decide +kernel
theorem dX8_frame_49 : decode cX8_frame 49 = .ok (.iload_n 2, 1) := by decide +kernel
theorem dX8_frame_50 : decode cX8_frame 50 = .ok (.iconst 3, 1) := by decide +kernel
theorem dX8_frame_51 : decode cX8_frame 51 = .ok (.if_icmp .ge 21, 3) := by decide +kernel
theorem dX8_frame_54 : decode cX8_frame 54 = .ok (.aload_n 0, 1) := by decide +kernel
theorem dX8_frame_55 : decode cX8_frame 55 = .ok (.iload_n 1, 1) := by decide +kernel
theorem dX8_frame_56 : decode cX8_frame 56 = .ok (.iload_n 2, 1) := by decide +kernel
theorem dX8_frame_57 : decode cX8_frame 57 = .ok (.iconst 1, 1) := by decide +kernel
theorem dX8_frame_58 : decode cX8_frame 58 = .ok (.if_icmp .ne 7, 3) := by decide +kernel
theorem dX8_frame_61 : decode cX8_frame 61 = .ok (.iconst 1, 1) := by decide +kernel
theorem dX8_frame_62 : decode cX8_frame 62 = .ok (.goto 4, 3) := by decide +kernel
theorem dX8_frame_65 : decode cX8_frame 65 = .ok (.iconst 0, 1) := by decide +kernel
theorem dX8_frame_66 : decode cX8_frame 66 = .ok (.invokevirtual 186, 3) := by decide +kernel
theorem dX8_frame_69 : decode cX8_frame 69 = .ok (.goto 18, 3) := by decide +kernel
theorem dX8_frame_72 : decode cX8_frame 72 = .ok (.aload_n 0, 1) := by decide +kernel
theorem dX8_frame_73 : decode cX8_frame 73 = .ok (.iload_n 1, 1) := by decide +kernel
theorem dX8_frame_74 : decode cX8_frame 74 = .ok (.iload_n 2, 1) := by decide +kernel
theorem dX8_frame_75 : decode cX8_frame 75 = .ok (.iconst 4, 1) := by decide +kernel
theorem dX8_frame_76 : decode cX8_frame 76 = .ok (.if_icmp .ne 7, 3) := by decide +kernel
theorem dX8_frame_79 : decode cX8_frame 79 = .ok (.iconst 1, 1) := by decide +kernel
theorem dX8_frame_80 : decode cX8_frame 80 = .ok (.goto 4, 3) := by decide +kernel
theorem dX8_frame_83 : decode cX8_frame 83 = .ok (.iconst 0, 1) := by decide +kernel
theorem dX8_frame_84 : decode cX8_frame 84 = .ok (.invokevirtual 190, 3) := by decide +kernel
theorem dX8_frame_87 : decode cX8_frame 87 = .ok (.ireturn, 1) := by decide +kernel
theorem dX8_track_0 : decode cX8_track 0 = .ok (.aload_n 0, 1) := by decide +kernel
theorem dX8_track_1 : decode cX8_track 1 = .ok (.iconst 0, 1) := by decide +kernel
theorem dX8_track_2 : decode cX8_track 2 = .ok (.putfield 52, 3) := by decide +kernel
theorem dX8_track_5 : decode cX8_track 5 = .ok (.aload_n 0, 1) := by decide +kernel
theorem dX8_track_6 : decode cX8_track 6 = .ok (.invokevirtual 183, 3) := by decide +kernel
theorem dX8_track_9 : decode cX8_track 9 = .ok (.iload_n 1, 1) := by decide +kernel
theorem dX8_track_10 : decode cX8_track 10 = .ok (.iconst 0, 1) := by decide +kernel
theorem dX8_track_11 : decode cX8_track 11 = .ok (.aload_n 0, 1) := by decide +kernel
theorem dX8_track_12 : decode cX8_track 12 = .ok (.getfield 145, 3) := by decide +kernel
theorem dX8_track_15 : decode cX8_track 15 = .ok (.iconst 1, 1) := by decide +kernel
theorem dX8_track_16 : decode cX8_track 16 = .ok (.isub, 1) := by decide +kernel
theorem dX8_track_17 : decode cX8_track 17 = .ok (.invokestatic 56, 3) := by decide +kernel
theorem dX8_track_20 : decode cX8_track 20 = .ok (.ifCond .eq 13, 3) := by decide +kernel
theorem dX8_track_23 : decode cX8_track 23 = .ok (.iload_n 2, 1) := by decide +kernel
theorem dX8_track_24 : decode cX8_track 24 = .ok (.iconst 0, 1) := by decide +kernel
theorem dX8_track_25 : decode cX8_track 25 = .ok (.bipush 7, 2) := by decide +kernel
theorem dX8_track_27 : decode cX8_track 27 = .ok (.invokestatic 56, 3) := by decide +kernel
theorem dX8_track_30 : decode cX8_track 30 = .ok (.ifCond .ne 6, 3) := by decide +kernel
theorem dX8_track_33 : decode cX8_track 33 = .ok (.ldc 182, 2) := by decide +kernel
theorem dX8_track_35 : decode cX8_track 35 = .ok (.ireturn, 1) := by decide +kernel
theorem dX8_track_36 : decode cX8_track 36 = .ok (.aload_n 0, 1) := by decide +kernel
theorem dX8_track_37 : decode cX8_track 37 = .ok (.iload_n 1, 1) := by decide +kernel
theorem dX8_track_38 : decode cX8_track 38 = .ok (.invokevirtual 158, 3) := by decide +kernel
theorem dX8_track_41 : decode cX8_track 41 = .ok (.istore_n 3, 1) := by decide +kernel
theorem dX8_track_42 : decode cX8_track 42 = .ok (.iload_n 2, 1) := by decide +kernel
theorem dX8_track_43 : decode cX8_track 43 = .ok (.tableswitch 93 0 6 #[41, 43, 49, 69, 75, 81, 87], 41) := by decide +kernel
theorem dX8_track_84 : decode cX8_track 84 = .ok (.iload_n 3, 1) := by decide +kernel
theorem dX8_track_85 : decode cX8_track 85 = .ok (.ireturn, 1) := by decide +kernel
theorem dX8_track_86 : decode cX8_track 86 = .ok (.aload_n 0, 1) := by decide +kernel
theorem dX8_track_87 : decode cX8_track 87 = .ok (.iload_n 1, 1) := by decide +kernel
theorem dX8_track_88 : decode cX8_track 88 = .ok (.invokevirtual 161, 3) := by decide +kernel
theorem dX8_track_91 : decode cX8_track 91 = .ok (.ireturn, 1) := by decide +kernel
theorem dX8_track_92 : decode cX8_track 92 = .ok (.aload_n 0, 1) := by decide +kernel
theorem dX8_track_93 : decode cX8_track 93 = .ok (.iload_n 1, 1) := by decide +kernel
theorem dX8_track_94 : decode cX8_track 94 = .ok (.invokevirtual 161, 3) := by decide +kernel
theorem dX8_track_97 : decode cX8_track 97 = .ok (.aload_n 0, 1) := by decide +kernel
theorem dX8_track_98 : decode cX8_track 98 = .ok (.getfield 7, 3) := by decide +kernel
theorem dX8_track_101 : decode cX8_track 101 = .ok (.iconst 4, 1) := by decide +kernel
theorem dX8_track_102 : decode cX8_track 102 = .ok (.iaload, 1) := by decide +kernel
theorem dX8_track_103 : decode cX8_track 103 = .ok (.if_icmp .lt 7, 3) := by decide +kernel
theorem dX8_track_106 : decode cX8_track 106 = .ok (.iconst 1, 1) := by decide +kernel
theorem dX8_track_107 : decode cX8_track 107 = .ok (.goto 4, 3) := by decide +kernel
theorem dX8_track_110 : decode cX8_track 110 = .ok (.iconst 0, 1) := by decide +kernel
theorem dX8_track_111 : decode cX8_track 111 = .ok (.ireturn, 1) := by decide +kernel
theorem dX8_track_112 : decode cX8_track 112 = .ok (.aload_n 0, 1) := by decide +kernel
theorem dX8_track_113 : decode cX8_track 113 = .ok (.iload_n 1, 1) := by decide +kernel
theorem dX8_track_114 : decode cX8_track 114 = .ok (.invokevirtual 173, 3) := by decide +kernel
theorem dX8_track_117 : decode cX8_track 117 = .ok (.ireturn, 1) := by decide +kernel
theorem dX8_track_118 : decode cX8_track 118 = .ok (.aload_n 0, 1) := by decide +kernel
theorem dX8_track_119 : decode cX8_track 119 = .ok (.iload_n 1, 1) := by decide +kernel
theorem dX8_track_120 : decode cX8_track 120 = .ok (.invokevirtual 193, 3) := by decide +kernel
theorem dX8_track_123 : decode cX8_track 123 = .ok (.ireturn, 1) := by decide +kernel
theorem dX8_track_124 : decode cX8_track 124 = .ok (.aload_n 0, 1) := by decide +kernel
theorem dX8_track_125 : decode cX8_track 125 = .ok (.iload_n 1, 1) := by decide +kernel
theorem dX8_track_126 : decode cX8_track 126 = .ok (.invokevirtual 179, 3) := by decide +kernel
theorem dX8_track_129 : decode cX8_track 129 = .ok (.ireturn, 1) := by decide +kernel
theorem dX8_track_130 : decode cX8_track 130 = .ok (.aload_n 0, 1) := by decide +kernel
theorem dX8_track_131 : decode cX8_track 131 = .ok (.iload_n 1, 1) := by decide +kernel
theorem dX8_track_132 : decode cX8_track 132 = .ok (.invokevirtual 196, 3) := by decide +kernel
theorem dX8_track_135 : decode cX8_track 135 = .ok (.ireturn, 1) := by decide +kernel
theorem dX8_track_136 : decode cX8_track 136 = .ok (.aload_n 0, 1) := by decide +kernel
theorem dX8_track_137 : decode cX8_track 137 = .ok (.iload_n 3, 1) := by decide +kernel
theorem dX8_track_138 : decode cX8_track 138 = .ok (.aload_n 0, 1) := by decide +kernel
theorem dX8_track_139 : decode cX8_track 139 = .ok (.iload_n 1, 1) := by decide +kernel
theorem dX8_track_140 : decode cX8_track 140 = .ok (.iload_n 3, 1) := by decide +kernel
theorem dX8_track_141 : decode cX8_track 141 = .ok (.invokevirtual 155, 3) := by decide +kernel
theorem dX8_track_144 : decode cX8_track 144 = .ok (.invokevirtual 121, 3) := by decide +kernel
theorem dX8_track_147 : decode cX8_track 147 = .ok (.ireturn, 1) := by decide +kernel
theorem dX8_pitchIn_0 : decode cX8_pitchIn 0 = .ok (.iload_n 2, 1) := by decide +kernel
theorem dX8_pitchIn_1 : decode cX8_pitchIn 1 = .ok (.aload_n 0, 1) := by decide +kernel
theorem dX8_pitchIn_2 : decode cX8_pitchIn 2 = .ok (.getfield 7, 3) := by decide +kernel
theorem dX8_pitchIn_5 : decode cX8_pitchIn 5 = .ok (.iconst 0, 1) := by decide +kernel
theorem dX8_pitchIn_6 : decode cX8_pitchIn 6 = .ok (.iaload, 1) := by decide +kernel
theorem dX8_pitchIn_7 : decode cX8_pitchIn 7 = .ok (.if_icmp .ge 12, 3) := by decide +kernel
theorem dX8_pitchIn_10 : decode cX8_pitchIn 10 = .ok (.aload_n 0, 1) := by decide +kernel
theorem dX8_pitchIn_11 : decode cX8_pitchIn 11 = .ok (.iload_n 1, 1) := by decide +kernel
theorem dX8_pitchIn_12 : decode cX8_pitchIn 12 = .ok (.iload_n 2, 1) := by decide +kernel
theorem dX8_pitchIn_13 : decode cX8_pitchIn 13 = .ok (.invokevirtual 155, 3) := by decide +kernel
theorem dX8_pitchIn_16 : decode cX8_pitchIn 16 = .ok (.goto 5, 3) := by decide +kernel
theorem dX8_pitchIn_19 : decode cX8_pitchIn 19 = .ok (.bipush (-9), 2) := by decide +kernel
theorem dX8_pitchIn_21 : decode cX8_pitchIn 21 = .ok (.istore_n 3, 1) := by decide +kernel
theorem dX8_pitchIn_22 : decode cX8_pitchIn 22 = .ok (.iload_n 3, 1) := by decide +kernel
theorem dX8_pitchIn_23 : decode cX8_pitchIn 23 = .ok (.bipush (-9), 2) := by decide +kernel
theorem dX8_pitchIn_25 : decode cX8_pitchIn 25 = .ok (.if_icmp .ne 8, 3) := by decide +kernel
theorem dX8_pitchIn_28 : decode cX8_pitchIn 28 = .ok (.bipush (-9), 2) := by decide +kernel
theorem dX8_pitchIn_30 : decode cX8_pitchIn 30 = .ok (.goto 9, 3) := by decide +kernel
theorem dX8_pitchIn_33 : decode cX8_pitchIn 33 = .ok (.aload_n 0, 1) := by decide +kernel
theorem dX8_pitchIn_34 : decode cX8_pitchIn 34 = .ok (.iload_n 2, 1) := by decide +kernel
theorem dX8_pitchIn_35 : decode cX8_pitchIn 35 = .ok (.iload_n 3, 1) := by decide +kernel
theorem dX8_pitchIn_36 : decode cX8_pitchIn 36 = .ok (.invokevirtual 121, 3) := by decide +kernel
theorem dX8_pitchIn_39 : decode cX8_pitchIn 39 = .ok (.ireturn, 1) := by decide +kernel
theorem dX8_pitch_0 : decode cX8_pitch 0 = .ok (.aload_n 0, 1) := by decide +kernel
theorem dX8_pitch_1 : decode cX8_pitch 1 = .ok (.iconst 0, 1) := by decide +kernel
theorem dX8_pitch_2 : decode cX8_pitch 2 = .ok (.putfield 52, 3) := by decide +kernel
theorem dX8_pitch_5 : decode cX8_pitch 5 = .ok (.aload_n 0, 1) := by decide +kernel
theorem dX8_pitch_6 : decode cX8_pitch 6 = .ok (.invokevirtual 183, 3) := by decide +kernel
theorem dX8_pitch_9 : decode cX8_pitch 9 = .ok (.iload_n 1, 1) := by decide +kernel
theorem dX8_pitch_10 : decode cX8_pitch 10 = .ok (.iconst 0, 1) := by decide +kernel
theorem dX8_pitch_11 : decode cX8_pitch 11 = .ok (.aload_n 0, 1) := by decide +kernel
theorem dX8_pitch_12 : decode cX8_pitch 12 = .ok (.getfield 145, 3) := by decide +kernel
theorem dX8_pitch_15 : decode cX8_pitch 15 = .ok (.iconst 1, 1) := by decide +kernel
theorem dX8_pitch_16 : decode cX8_pitch 16 = .ok (.isub, 1) := by decide +kernel
theorem dX8_pitch_17 : decode cX8_pitch 17 = .ok (.invokestatic 56, 3) := by decide +kernel
theorem dX8_pitch_20 : decode cX8_pitch 20 = .ok (.ifCond .eq 28, 3) := by decide +kernel
theorem dX8_pitch_23 : decode cX8_pitch 23 = .ok (.iload_n 2, 1) := by decide +kernel
theorem dX8_pitch_24 : decode cX8_pitch 24 = .ok (.iconst 0, 1) := by decide +kernel
theorem dX8_pitch_25 : decode cX8_pitch 25 = .ok (.aload_n 0, 1) := by decide +kernel
theorem dX8_pitch_26 : decode cX8_pitch 26 = .ok (.getfield 7, 3) := by decide +kernel
theorem dX8_pitch_29 : decode cX8_pitch 29 = .ok (.iconst 0, 1) := by decide +kernel
theorem dX8_pitch_30 : decode cX8_pitch 30 = .ok (.iaload, 1) := by decide +kernel
theorem dX8_pitch_31 : decode cX8_pitch 31 = .ok (.iconst 1, 1) := by decide +kernel
theorem dX8_pitch_32 : decode cX8_pitch 32 = .ok (.isub, 1) := by decide +kernel
theorem dX8_pitch_33 : decode cX8_pitch 33 = .ok (.invokestatic 56, 3) := by decide +kernel
theorem dX8_pitch_36 : decode cX8_pitch 36 = .ok (.ifCond .eq 12, 3) := by decide +kernel
theorem dX8_pitch_39 : decode cX8_pitch 39 = .ok (.aload_n 0, 1) := by decide +kernel
theorem dX8_pitch_40 : decode cX8_pitch 40 = .ok (.iload_n 1, 1) := by decide +kernel
theorem dX8_pitch_41 : decode cX8_pitch 41 = .ok (.iload_n 2, 1) := by decide +kernel
theorem dX8_pitch_42 : decode cX8_pitch 42 = .ok (.invokevirtual 199, 3) := by decide +kernel
theorem dX8_pitch_45 : decode cX8_pitch 45 = .ok (.goto 5, 3) := by decide +kernel
theorem dX8_pitch_48 : decode cX8_pitch 48 = .ok (.ldc 182, 2) := by decide +kernel
theorem dX8_pitch_50 : decode cX8_pitch 50 = .ok (.ireturn, 1) := by decide +kernel
theorem dX8_best_0 : decode cX8_best 0 = .ok (.aload_n 0, 1) := by decide +kernel
theorem dX8_best_1 : decode cX8_best 1 = .ok (.iconst 0, 1) := by decide +kernel
theorem dX8_best_2 : decode cX8_best 2 = .ok (.putfield 52, 3) := by decide +kernel
theorem dX8_best_5 : decode cX8_best 5 = .ok (.iload_n 1, 1) := by decide +kernel
theorem dX8_best_6 : decode cX8_best 6 = .ok (.iconst 0, 1) := by decide +kernel
theorem dX8_best_7 : decode cX8_best 7 = .ok (.iconst 1, 1) := by decide +kernel
theorem dX8_best_8 : decode cX8_best 8 = .ok (.invokestatic 56, 3) := by decide +kernel
theorem dX8_best_11 : decode cX8_best 11 = .ok (.ifCond .ne 5, 3) := by decide +kernel
theorem dX8_best_14 : decode cX8_best 14 = .ok (.iconst (-1), 1) := by decide +kernel
theorem dX8_best_15 : decode cX8_best 15 = .ok (.ireturn, 1) := by decide +kernel
theorem dX8_best_16 : decode cX8_best 16 = .ok (.iconst 0, 1) := by decide +kernel
theorem dX8_best_17 : decode cX8_best 17 = .ok (.istore_n 2, 1) := by decide +kernel
theorem dX8_best_18 : decode cX8_best 18 = .ok (.sipush 1000, 3) := by decide +kernel
theorem dX8_best_21 : decode cX8_best 21 = .ok (.istore_n 3, 1) := by decide +kernel
theorem dX8_best_22 : decode cX8_best 22 = .ok (.iconst 0, 1) := by decide +kernel
theorem dX8_best_23 : decode cX8_best 23 = .ok (.istore 4, 2) := by decide +kernel
theorem dX8_best_25 : decode cX8_best 25 = .ok (.iload 4, 2) := by decide +kernel
theorem dX8_best_27 : decode cX8_best 27 = .ok (.bipush 20, 2) := by decide +kernel
theorem dX8_best_29 : decode cX8_best 29 = .ok (.if_icmp .gt 47, 3) := by decide +kernel
theorem dX8_best_32 : decode cX8_best 32 = .ok (.aload_n 0, 1) := by decide +kernel
theorem dX8_best_33 : decode cX8_best 33 = .ok (.iload 4, 2) := by decide +kernel
theorem dX8_best_35 : decode cX8_best 35 = .ok (.invokevirtual 151, 3) := by decide +kernel
theorem dX8_best_38 : decode cX8_best 38 = .ok (.aload_n 0, 1) := by decide +kernel
theorem dX8_best_39 : decode cX8_best 39 = .ok (.getfield 145, 3) := by decide +kernel
theorem dX8_best_42 : decode cX8_best 42 = .ok (.iload_n 3, 1) := by decide +kernel
theorem dX8_best_43 : decode cX8_best 43 = .ok (.if_icmp .ge 8, 3) := by decide +kernel
theorem dX8_best_46 : decode cX8_best 46 = .ok (.iload 4, 2) := by decide +kernel
theorem dX8_best_48 : decode cX8_best 48 = .ok (.goto 4, 3) := by decide +kernel
theorem dX8_best_51 : decode cX8_best 51 = .ok (.iload_n 2, 1) := by decide +kernel
theorem dX8_best_52 : decode cX8_best 52 = .ok (.istore_n 2, 1) := by decide +kernel
theorem dX8_best_53 : decode cX8_best 53 = .ok (.aload_n 0, 1) := by decide +kernel
theorem dX8_best_54 : decode cX8_best 54 = .ok (.getfield 145, 3) := by decide +kernel
theorem dX8_best_57 : decode cX8_best 57 = .ok (.iload_n 3, 1) := by decide +kernel
theorem dX8_best_58 : decode cX8_best 58 = .ok (.if_icmp .ge 10, 3) := by decide +kernel
theorem dX8_best_61 : decode cX8_best 61 = .ok (.aload_n 0, 1) := by decide +kernel
theorem dX8_best_62 : decode cX8_best 62 = .ok (.getfield 145, 3) := by decide +kernel
theorem dX8_best_65 : decode cX8_best 65 = .ok (.goto 4, 3) := by decide +kernel
theorem dX8_best_68 : decode cX8_best 68 = .ok (.iload_n 3, 1) := by decide +kernel
theorem dX8_best_69 : decode cX8_best 69 = .ok (.istore_n 3, 1) := by decide +kernel
theorem dX8_best_70 : decode cX8_best 70 = .ok (.iinc 4 1, 3) := by decide +kernel
theorem dX8_best_73 : decode cX8_best 73 = .ok (.goto (-48), 3) := by decide +kernel
theorem dX8_best_76 : decode cX8_best 76 = .ok (.iload_n 1, 1) := by decide +kernel
theorem dX8_best_77 : decode cX8_best 77 = .ok (.ifCond .ne 7, 3) := by decide +kernel
theorem dX8_best_80 : decode cX8_best 80 = .ok (.iload_n 2, 1) := by decide +kernel
theorem dX8_best_81 : decode cX8_best 81 = .ok (.goto 4, 3) := by decide +kernel
theorem dX8_best_84 : decode cX8_best 84 = .ok (.iload_n 3, 1) := by decide +kernel
theorem dX8_best_85 : decode cX8_best 85 = .ok (.ireturn, 1) := by decide +kernel
theorem dX8_sees_0 : decode cX8_sees 0 = .ok (.aload_n 0, 1) := by decide +kernel
theorem dX8_sees_1 : decode cX8_sees 1 = .ok (.iconst 0, 1) := by decide +kernel
theorem dX8_sees_2 : decode cX8_sees 2 = .ok (.putfield 52, 3) := by decide +kernel
theorem dX8_sees_5 : decode cX8_sees 5 = .ok (.iload_n 1, 1) := by decide +kernel
theorem dX8_sees_6 : decode cX8_sees 6 = .ok (.iconst 0, 1) := by decide +kernel
theorem dX8_sees_7 : decode cX8_sees 7 = .ok (.bipush 7, 2) := by decide +kernel
theorem dX8_sees_9 : decode cX8_sees 9 = .ok (.invokestatic 56, 3) := by decide +kernel
theorem dX8_sees_12 : decode cX8_sees 12 = .ok (.ifCond .eq 19, 3) := by decide +kernel
theorem dX8_sees_15 : decode cX8_sees 15 = .ok (.iload_n 2, 1) := by decide +kernel
theorem dX8_sees_16 : decode cX8_sees 16 = .ok (.iconst (-1), 1) := by decide +kernel
theorem dX8_sees_17 : decode cX8_sees 17 = .ok (.bipush 45, 2) := by decide +kernel
theorem dX8_sees_19 : decode cX8_sees 19 = .ok (.invokestatic 56, 3) := by decide +kernel
theorem dX8_sees_22 : decode cX8_sees 22 = .ok (.ifCond .ne 11, 3) := by decide +kernel
theorem dX8_sees_25 : decode cX8_sees 25 = .ok (.iload_n 2, 1) := by decide +kernel
theorem dX8_sees_26 : decode cX8_sees 26 = .ok (.bipush (-9), 2) := by decide +kernel
theorem dX8_sees_28 : decode cX8_sees 28 = .ok (.if_icmp .eq 5, 3) := by decide +kernel
theorem dX8_sees_31 : decode cX8_sees 31 = .ok (.iconst (-1), 1) := by decide +kernel
theorem dX8_sees_32 : decode cX8_sees 32 = .ok (.ireturn, 1) := by decide +kernel
theorem dX8_sees_33 : decode cX8_sees 33 = .ok (.aload_n 0, 1) := by decide +kernel
theorem dX8_sees_34 : decode cX8_sees 34 = .ok (.getfield 202, 3) := by decide +kernel
theorem dX8_sees_37 : decode cX8_sees 37 = .ok (.bipush 6, 2) := by decide +kernel
theorem dX8_sees_39 : decode cX8_sees 39 = .ok (.if_icmp .ne 6, 3) := by decide +kernel
theorem dX8_sees_42 : decode cX8_sees 42 = .ok (.bipush (-3), 2) := by decide +kernel
theorem dX8_sees_44 : decode cX8_sees 44 = .ok (.ireturn, 1) := by decide +kernel
theorem dX8_sees_45 : decode cX8_sees 45 = .ok (.aload_n 0, 1) := by decide +kernel
theorem dX8_sees_46 : decode cX8_sees 46 = .ok (.getfield 26, 3) := by decide +kernel
theorem dX8_sees_49 : decode cX8_sees 49 = .ok (.iconst 2, 1) := by decide +kernel
theorem dX8_sees_50 : decode cX8_sees 50 = .ok (.aload_n 0, 1) := by decide +kernel
theorem dX8_sees_51 : decode cX8_sees 51 = .ok (.getfield 202, 3) := by decide +kernel
theorem dX8_sees_54 : decode cX8_sees 54 = .ok (.imul, 1) := by decide +kernel
theorem dX8_sees_55 : decode cX8_sees 55 = .ok (.iload_n 1, 1) := by decide +kernel
theorem dX8_sees_56 : decode cX8_sees 56 = .ok (.iastore, 1) := by decide +kernel
theorem dX8_sees_57 : decode cX8_sees 57 = .ok (.aload_n 0, 1) := by decide +kernel
theorem dX8_sees_58 : decode cX8_sees 58 = .ok (.getfield 26, 3) := by decide +kernel
theorem dX8_sees_61 : decode cX8_sees 61 = .ok (.iconst 2, 1) := by decide +kernel
theorem dX8_sees_62 : decode cX8_sees 62 = .ok (.aload_n 0, 1) := by decide +kernel
theorem dX8_sees_63 : decode cX8_sees 63 = .ok (.getfield 202, 3) := by decide +kernel
theorem dX8_sees_66 : decode cX8_sees 66 = .ok (.imul, 1) := by decide +kernel
theorem dX8_sees_67 : decode cX8_sees 67 = .ok (.iconst 1, 1) := by decide +kernel
theorem dX8_sees_68 : decode cX8_sees 68 = .ok (.iadd, 1) := by decide +kernel
theorem dX8_sees_69 : decode cX8_sees 69 = .ok (.iload_n 2, 1) := by decide +kernel
theorem dX8_sees_70 : decode cX8_sees 70 = .ok (.iastore, 1) := by decide +kernel
theorem dX8_sees_71 : decode cX8_sees 71 = .ok (.aload_n 0, 1) := by decide +kernel
theorem dX8_sees_72 : decode cX8_sees 72 = .ok (.dup, 1) := by decide +kernel
theorem dX8_sees_73 : decode cX8_sees 73 = .ok (.getfield 202, 3) := by decide +kernel
theorem dX8_sees_76 : decode cX8_sees 76 = .ok (.iconst 1, 1) := by decide +kernel
theorem dX8_sees_77 : decode cX8_sees 77 = .ok (.iadd, 1) := by decide +kernel
theorem dX8_sees_78 : decode cX8_sees 78 = .ok (.putfield 202, 3) := by decide +kernel
theorem dX8_sees_81 : decode cX8_sees 81 = .ok (.aload_n 0, 1) := by decide +kernel
theorem dX8_sees_82 : decode cX8_sees 82 = .ok (.getfield 202, 3) := by decide +kernel
theorem dX8_sees_85 : decode cX8_sees 85 = .ok (.ireturn, 1) := by decide +kernel
theorem dX8_forget_0 : decode cX8_forget 0 = .ok (.aload_n 0, 1) := by decide +kernel
theorem dX8_forget_1 : decode cX8_forget 1 = .ok (.iconst 0, 1) := by decide +kernel
theorem dX8_forget_2 : decode cX8_forget 2 = .ok (.putfield 52, 3) := by decide +kernel
theorem dX8_forget_5 : decode cX8_forget 5 = .ok (.aload_n 0, 1) := by decide +kernel
theorem dX8_forget_6 : decode cX8_forget 6 = .ok (.getfield 202, 3) := by decide +kernel
theorem dX8_forget_9 : decode cX8_forget 9 = .ok (.istore_n 1, 1) := by decide +kernel
theorem dX8_forget_10 : decode cX8_forget 10 = .ok (.aload_n 0, 1) := by decide +kernel
theorem dX8_forget_11 : decode cX8_forget 11 = .ok (.iconst 0, 1) := by decide +kernel
theorem dX8_forget_12 : decode cX8_forget 12 = .ok (.putfield 202, 3) := by decide +kernel
theorem dX8_forget_15 : decode cX8_forget 15 = .ok (.iload_n 1, 1) := by decide +kernel
theorem dX8_forget_16 : decode cX8_forget 16 = .ok (.ireturn, 1) := by decide +kernel
theorem dX8_isSo_0 : decode cX8_isSo 0 = .ok (.iconst 1, 1) := by decide +kernel
theorem dX8_isSo_1 : decode cX8_isSo 1 = .ok (.istore_n 2, 1) := by decide +kernel
theorem dX8_isSo_2 : decode cX8_isSo 2 = .ok (.iconst 0, 1) := by decide +kernel
theorem dX8_isSo_3 : decode cX8_isSo 3 = .ok (.istore_n 3, 1) := by decide +kernel
theorem dX8_isSo_4 : decode cX8_isSo 4 = .ok (.iload_n 3, 1) := by decide +kernel
theorem dX8_isSo_5 : decode cX8_isSo 5 = .ok (.aload_n 0, 1) := by decide +kernel
theorem dX8_isSo_6 : decode cX8_isSo 6 = .ok (.getfield 202, 3) := by decide +kernel
theorem dX8_isSo_9 : decode cX8_isSo 9 = .ok (.if_icmp .ge 45, 3) := by decide +kernel
theorem dX8_isSo_12 : decode cX8_isSo 12 = .ok (.iload_n 2, 1) := by decide +kernel
theorem dX8_isSo_13 : decode cX8_isSo 13 = .ok (.ifCond .eq 33, 3) := by decide +kernel
theorem dX8_isSo_16 : decode cX8_isSo 16 = .ok (.aload_n 0, 1) := by decide +kernel
theorem dX8_isSo_17 : decode cX8_isSo 17 = .ok (.iload_n 1, 1) := by decide +kernel
theorem dX8_isSo_18 : decode cX8_isSo 18 = .ok (.aload_n 0, 1) := by decide +kernel
theorem dX8_isSo_19 : decode cX8_isSo 19 = .ok (.getfield 26, 3) := by decide +kernel
theorem dX8_isSo_22 : decode cX8_isSo 22 = .ok (.iconst 2, 1) := by decide +kernel
theorem dX8_isSo_23 : decode cX8_isSo 23 = .ok (.iload_n 3, 1) := by decide +kernel
theorem dX8_isSo_24 : decode cX8_isSo 24 = .ok (.imul, 1) := by decide +kernel
theorem dX8_isSo_25 : decode cX8_isSo 25 = .ok (.iaload, 1) := by decide +kernel
theorem dX8_isSo_26 : decode cX8_isSo 26 = .ok (.invokevirtual 199, 3) := by decide +kernel
theorem dX8_isSo_29 : decode cX8_isSo 29 = .ok (.aload_n 0, 1) := by decide +kernel
theorem dX8_isSo_30 : decode cX8_isSo 30 = .ok (.getfield 26, 3) := by decide +kernel
theorem dX8_isSo_33 : decode cX8_isSo 33 = .ok (.iconst 2, 1) := by decide +kernel
theorem dX8_isSo_34 : decode cX8_isSo 34 = .ok (.iload_n 3, 1) := by decide +kernel
theorem dX8_isSo_35 : decode cX8_isSo 35 = .ok (.imul, 1) := by decide +kernel
theorem dX8_isSo_36 : decode cX8_isSo 36 = .ok (.iconst 1, 1) := by decide +kernel
theorem dX8_isSo_37 : decode cX8_isSo 37 = .ok (.iadd, 1) := by decide +kernel
theorem dX8_isSo_38 : decode cX8_isSo 38 = .ok (.iaload, 1) := by decide +kernel
theorem dX8_isSo_39 : decode cX8_isSo 39 = .ok (.if_icmp .ne 7, 3) := by decide +kernel
theorem dX8_isSo_42 : decode cX8_isSo 42 = .ok (.iconst 1, 1) := by decide +kernel
theorem dX8_isSo_43 : decode cX8_isSo 43 = .ok (.goto 4, 3) := by decide +kernel
theorem dX8_isSo_46 : decode cX8_isSo 46 = .ok (.iconst 0, 1) := by decide +kernel
theorem dX8_isSo_47 : decode cX8_isSo 47 = .ok (.istore_n 2, 1) := by decide +kernel
theorem dX8_isSo_48 : decode cX8_isSo 48 = .ok (.iinc 3 1, 3) := by decide +kernel
theorem dX8_isSo_51 : decode cX8_isSo 51 = .ok (.goto (-47), 3) := by decide +kernel
theorem dX8_isSo_54 : decode cX8_isSo 54 = .ok (.iload_n 2, 1) := by decide +kernel
theorem dX8_isSo_55 : decode cX8_isSo 55 = .ok (.ireturn, 1) := by decide +kernel
theorem dX8_which_0 : decode cX8_which 0 = .ok (.aload_n 0, 1) := by decide +kernel
theorem dX8_which_1 : decode cX8_which 1 = .ok (.iconst 0, 1) := by decide +kernel
theorem dX8_which_2 : decode cX8_which 2 = .ok (.putfield 52, 3) := by decide +kernel
theorem dX8_which_5 : decode cX8_which 5 = .ok (.iload_n 1, 1) := by decide +kernel
theorem dX8_which_6 : decode cX8_which 6 = .ok (.iconst 0, 1) := by decide +kernel
theorem dX8_which_7 : decode cX8_which 7 = .ok (.iconst 1, 1) := by decide +kernel
theorem dX8_which_8 : decode cX8_which 8 = .ok (.invokestatic 56, 3) := by decide +kernel
theorem dX8_which_11 : decode cX8_which 11 = .ok (.ifCond .ne 5, 3) := by decide +kernel
theorem dX8_which_14 : decode cX8_which 14 = .ok (.iconst (-1), 1) := by decide +kernel
theorem dX8_which_15 : decode cX8_which 15 = .ok (.ireturn, 1) := by decide +kernel
theorem dX8_which_16 : decode cX8_which 16 = .ok (.aload_n 0, 1) := by decide +kernel
theorem dX8_which_17 : decode cX8_which 17 = .ok (.invokevirtual 183, 3) := by decide +kernel
theorem dX8_which_20 : decode cX8_which 20 = .ok (.iconst 0, 1) := by decide +kernel
theorem dX8_which_21 : decode cX8_which 21 = .ok (.istore_n 2, 1) := by decide +kernel
theorem dX8_which_22 : decode cX8_which 22 = .ok (.bipush (-9), 2) := by decide +kernel
theorem dX8_which_24 : decode cX8_which 24 = .ok (.istore_n 3, 1) := by decide +kernel
theorem dX8_which_25 : decode cX8_which 25 = .ok (.iconst 0, 1) := by decide +kernel
theorem dX8_which_26 : decode cX8_which 26 = .ok (.istore 4, 2) := by decide +kernel
theorem dX8_which_28 : decode cX8_which 28 = .ok (.iload 4, 2) := by decide +kernel
theorem dX8_which_30 : decode cX8_which 30 = .ok (.aload_n 0, 1) := by decide +kernel
theorem dX8_which_31 : decode cX8_which 31 = .ok (.getfield 145, 3) := by decide +kernel
theorem dX8_which_34 : decode cX8_which 34 = .ok (.if_icmp .ge 32, 3) := by decide +kernel
theorem dX8_which_37 : decode cX8_which 37 = .ok (.aload_n 0, 1) := by decide +kernel
theorem dX8_which_38 : decode cX8_which 38 = .ok (.iload 4, 2) := by decide +kernel
theorem dX8_which_40 : decode cX8_which 40 = .ok (.invokevirtual 205, 3) := by decide +kernel
theorem dX8_which_43 : decode cX8_which 43 = .ok (.ifCond .eq 17, 3) := by decide +kernel
theorem dX8_which_46 : decode cX8_which 46 = .ok (.iload_n 2, 1) := by decide +kernel
theorem dX8_which_47 : decode cX8_which 47 = .ok (.ifCond .ne 8, 3) := by decide +kernel
theorem dX8_which_50 : decode cX8_which 50 = .ok (.iload 4, 2) := by decide +kernel
theorem dX8_which_52 : decode cX8_which 52 = .ok (.goto 4, 3) := by decide +kernel
theorem dX8_which_55 : decode cX8_which 55 = .ok (.iload_n 3, 1) := by decide +kernel
theorem dX8_which_56 : decode cX8_which 56 = .ok (.istore_n 3, 1) := by decide +kernel
theorem dX8_which_57 : decode cX8_which 57 = .ok (.iinc 2 1, 3) := by decide +kernel
theorem dX8_which_60 : decode cX8_which 60 = .ok (.iinc 4 1, 3) := by decide +kernel
theorem dX8_which_63 : decode cX8_which 63 = .ok (.goto (-35), 3) := by decide +kernel
theorem dX8_which_66 : decode cX8_which 66 = .ok (.iload_n 1, 1) := by decide +kernel
theorem dX8_which_67 : decode cX8_which 67 = .ok (.ifCond .ne 7, 3) := by decide +kernel
theorem dX8_which_70 : decode cX8_which 70 = .ok (.iload_n 2, 1) := by decide +kernel
theorem dX8_which_71 : decode cX8_which 71 = .ok (.goto 4, 3) := by decide +kernel
theorem dX8_which_74 : decode cX8_which 74 = .ok (.iload_n 3, 1) := by decide +kernel
theorem dX8_which_75 : decode cX8_which 75 = .ok (.ireturn, 1) := by decide +kernel
theorem dX8_mostAlike_0 : decode cX8_mostAlike 0 = .ok (.iconst 0, 1) := by decide +kernel
theorem dX8_mostAlike_1 : decode cX8_mostAlike 1 = .ok (.istore_n 2, 1) := by decide +kernel
theorem dX8_mostAlike_2 : decode cX8_mostAlike 2 = .ok (.iconst 0, 1) := by decide +kernel
theorem dX8_mostAlike_3 : decode cX8_mostAlike 3 = .ok (.istore_n 3, 1) := by decide +kernel
theorem dX8_mostAlike_4 : decode cX8_mostAlike 4 = .ok (.iload_n 3, 1) := by decide +kernel
theorem dX8_mostAlike_5 : decode cX8_mostAlike 5 = .ok (.aload_n 0, 1) := by decide +kernel
theorem dX8_mostAlike_6 : decode cX8_mostAlike 6 = .ok (.getfield 145, 3) := by decide +kernel
theorem dX8_mostAlike_9 : decode cX8_mostAlike 9 = .ok (.if_icmp .ge 86, 3) := by decide +kernel
theorem dX8_mostAlike_12 : decode cX8_mostAlike 12 = .ok (.iconst 0, 1) := by decide +kernel
theorem dX8_mostAlike_13 : decode cX8_mostAlike 13 = .ok (.istore 4, 2) := by decide +kernel
theorem dX8_mostAlike_15 : decode cX8_mostAlike 15 = .ok (.iconst 0, 1) := by decide +kernel
theorem dX8_mostAlike_16 : decode cX8_mostAlike 16 = .ok (.istore 5, 2) := by decide +kernel
theorem dX8_mostAlike_18 : decode cX8_mostAlike 18 = .ok (.iload 5, 2) := by decide +kernel
theorem dX8_mostAlike_20 : decode cX8_mostAlike 20 = .ok (.aload_n 0, 1) := by decide +kernel
theorem dX8_mostAlike_21 : decode cX8_mostAlike 21 = .ok (.getfield 145, 3) := by decide +kernel
theorem dX8_mostAlike_24 : decode cX8_mostAlike 24 = .ok (.if_icmp .ge 52, 3) := by decide +kernel
theorem dX8_mostAlike_27 : decode cX8_mostAlike 27 = .ok (.iload 4, 2) := by decide +kernel
theorem dX8_mostAlike_29 : decode cX8_mostAlike 29 = .ok (.aload_n 0, 1) := by decide +kernel
theorem dX8_mostAlike_30 : decode cX8_mostAlike 30 = .ok (.iload_n 3, 1) := by decide +kernel
theorem dX8_mostAlike_31 : decode cX8_mostAlike 31 = .ok (.invokevirtual 205, 3) := by decide +kernel
theorem dX8_mostAlike_34 : decode cX8_mostAlike 34 = .ok (.ifCond .eq 32, 3) := by decide +kernel
theorem dX8_mostAlike_37 : decode cX8_mostAlike 37 = .ok (.aload_n 0, 1) := by decide +kernel
theorem dX8_mostAlike_38 : decode cX8_mostAlike 38 = .ok (.iload 5, 2) := by decide +kernel
theorem dX8_mostAlike_40 : decode cX8_mostAlike 40 = .ok (.invokevirtual 205, 3) := by decide +kernel
theorem dX8_mostAlike_43 : decode cX8_mostAlike 43 = .ok (.ifCond .eq 23, 3) := by decide +kernel
theorem dX8_mostAlike_46 : decode cX8_mostAlike 46 = .ok (.aload_n 0, 1) := by decide +kernel
theorem dX8_mostAlike_47 : decode cX8_mostAlike 47 = .ok (.iload_n 3, 1) := by decide +kernel
theorem dX8_mostAlike_48 : decode cX8_mostAlike 48 = .ok (.iload_n 1, 1) := by decide +kernel
theorem dX8_mostAlike_49 : decode cX8_mostAlike 49 = .ok (.invokevirtual 199, 3) := by decide +kernel
theorem dX8_mostAlike_52 : decode cX8_mostAlike 52 = .ok (.aload_n 0, 1) := by decide +kernel
theorem dX8_mostAlike_53 : decode cX8_mostAlike 53 = .ok (.iload 5, 2) := by decide +kernel
theorem dX8_mostAlike_55 : decode cX8_mostAlike 55 = .ok (.iload_n 1, 1) := by decide +kernel
theorem dX8_mostAlike_56 : decode cX8_mostAlike 56 = .ok (.invokevirtual 199, 3) := by decide +kernel
theorem dX8_mostAlike_59 : decode cX8_mostAlike 59 = .ok (.if_icmp .ne 7, 3) := by decide +kernel
theorem dX8_mostAlike_62 : decode cX8_mostAlike 62 = .ok (.iconst 1, 1) := by decide +kernel
theorem dX8_mostAlike_63 : decode cX8_mostAlike 63 = .ok (.goto 4, 3) := by decide +kernel
theorem dX8_mostAlike_66 : decode cX8_mostAlike 66 = .ok (.iconst 0, 1) := by decide +kernel
theorem dX8_mostAlike_67 : decode cX8_mostAlike 67 = .ok (.iadd, 1) := by decide +kernel
theorem dX8_mostAlike_68 : decode cX8_mostAlike 68 = .ok (.istore 4, 2) := by decide +kernel
theorem dX8_mostAlike_70 : decode cX8_mostAlike 70 = .ok (.iinc 5 1, 3) := by decide +kernel
theorem dX8_mostAlike_73 : decode cX8_mostAlike 73 = .ok (.goto (-55), 3) := by decide +kernel
theorem dX8_mostAlike_76 : decode cX8_mostAlike 76 = .ok (.iload 4, 2) := by decide +kernel
theorem dX8_mostAlike_78 : decode cX8_mostAlike 78 = .ok (.iload_n 2, 1) := by decide +kernel
theorem dX8_mostAlike_79 : decode cX8_mostAlike 79 = .ok (.if_icmp .le 8, 3) := by decide +kernel
theorem dX8_mostAlike_82 : decode cX8_mostAlike 82 = .ok (.iload 4, 2) := by decide +kernel
theorem dX8_mostAlike_84 : decode cX8_mostAlike 84 = .ok (.goto 4, 3) := by decide +kernel
theorem dX8_mostAlike_87 : decode cX8_mostAlike 87 = .ok (.iload_n 2, 1) := by decide +kernel
theorem dX8_mostAlike_88 : decode cX8_mostAlike 88 = .ok (.istore_n 2, 1) := by decide +kernel
theorem dX8_mostAlike_89 : decode cX8_mostAlike 89 = .ok (.iinc 3 1, 3) := by decide +kernel
theorem dX8_mostAlike_92 : decode cX8_mostAlike 92 = .ok (.goto (-88), 3) := by decide +kernel
theorem dX8_mostAlike_95 : decode cX8_mostAlike 95 = .ok (.iload_n 2, 1) := by decide +kernel
theorem dX8_mostAlike_96 : decode cX8_mostAlike 96 = .ok (.ireturn, 1) := by decide +kernel
theorem dX8_listen_0 : decode cX8_listen 0 = .ok (.aload_n 0, 1) := by decide +kernel
theorem dX8_listen_1 : decode cX8_listen 1 = .ok (.iconst 0, 1) := by decide +kernel
theorem dX8_listen_2 : decode cX8_listen 2 = .ok (.putfield 52, 3) := by decide +kernel
