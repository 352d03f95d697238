theorem dX6_longest_15 : decode cX6_longest 15 = .ok (.aload_n 0, 1) := by decide +kernel
theorem dX6_longest_16 : decode cX6_longest 16 = .ok (.getfield 15, 3) := by decide +kernel
theorem dX6_longest_19 : decode cX6_longest 19 = .ok (.iload_n 3, 1) := by decide +kernel
theorem dX6_longest_20 : decode cX6_longest 20 = .ok (.iaload, 1) := by decide +kernel
theorem dX6_longest_21 : decode cX6_longest 21 = .ok (.iload_n 2, 1) := by decide +kernel
theorem dX6_longest_22 : decode cX6_longest 22 = .ok (.if_icmp .le 12, 3) := by decide +kernel
theorem dX6_longest_25 : decode cX6_longest 25 = .ok (.aload_n 0, 1) := by decide +kernel
theorem dX6_longest_26 : decode cX6_longest 26 = .ok (.getfield 15, 3) := by decide +kernel
theorem dX6_longest_29 : decode cX6_longest 29 = .ok (.iload_n 3, 1) := by decide +kernel
theorem dX6_longest_30 : decode cX6_longest 30 = .ok (.iaload, 1) := by decide +kernel
theorem dX6_longest_31 : decode cX6_longest 31 = .ok (.istore_n 2, 1) := by decide +kernel
theorem dX6_longest_32 : decode cX6_longest 32 = .ok (.iload_n 3, 1) := by decide +kernel
theorem dX6_longest_33 : decode cX6_longest 33 = .ok (.istore_n 1, 1) := by decide +kernel
theorem dX6_longest_34 : decode cX6_longest 34 = .ok (.iinc 3 1, 3) := by decide +kernel
theorem dX6_longest_37 : decode cX6_longest 37 = .ok (.goto (-30), 3) := by decide +kernel
theorem dX6_longest_40 : decode cX6_longest 40 = .ok (.iload_n 1, 1) := by decide +kernel
theorem dX6_longest_41 : decode cX6_longest 41 = .ok (.ireturn, 1) := by decide +kernel
theorem dX7_init_0 : decode cX7_init 0 = .ok (.aload_n 0, 1) := by decide +kernel
theorem dX7_init_1 : decode cX7_init 1 = .ok (.invokespecial 1, 3) := by decide +kernel
theorem dX7_init_4 : decode cX7_init 4 = .ok (.aload_n 0, 1) := by decide +kernel
theorem dX7_init_5 : decode cX7_init 5 = .ok (.new 7, 3) := by decide +kernel
theorem dX7_init_8 : decode cX7_init 8 = .ok (.dup, 1) := by decide +kernel
theorem dX7_init_9 : decode cX7_init 9 = .ok (.invokespecial 9, 3) := by decide +kernel
theorem dX7_init_12 : decode cX7_init 12 = .ok (.putfield 10, 3) := by decide +kernel
theorem dX7_init_15 : decode cX7_init 15 = .ok (.aload_n 0, 1) := by decide +kernel
theorem dX7_init_16 : decode cX7_init 16 = .ok (.new 7, 3) := by decide +kernel
theorem dX7_init_19 : decode cX7_init 19 = .ok (.dup, 1) := by decide +kernel
theorem dX7_init_20 : decode cX7_init 20 = .ok (.invokespecial 9, 3) := by decide +kernel
theorem dX7_init_23 : decode cX7_init 23 = .ok (.putfield 16, 3) := by decide +kernel
theorem dX7_init_26 : decode cX7_init 26 = .ok (.aload_n 0, 1) := by decide +kernel
theorem dX7_init_27 : decode cX7_init 27 = .ok (.new 19, 3) := by decide +kernel
theorem dX7_init_30 : decode cX7_init 30 = .ok (.dup, 1) := by decide +kernel
theorem dX7_init_31 : decode cX7_init 31 = .ok (.invokespecial 21, 3) := by decide +kernel
theorem dX7_init_34 : decode cX7_init 34 = .ok (.putfield 22, 3) := by decide +kernel
theorem dX7_init_37 : decode cX7_init 37 = .ok (.aload_n 0, 1) := by decide +kernel
theorem dX7_init_38 : decode cX7_init 38 = .ok (.new 26, 3) := by decide +kernel
theorem dX7_init_41 : decode cX7_init 41 = .ok (.dup, 1) := by decide +kernel
theorem dX7_init_42 : decode cX7_init 42 = .ok (.invokespecial 28, 3) := by decide +kernel
theorem dX7_init_45 : decode cX7_init 45 = .ok (.putfield 29, 3) := by decide +kernel
theorem dX7_init_48 : decode cX7_init 48 = .ok (.aload_n 0, 1) := by decide +kernel
theorem dX7_init_49 : decode cX7_init 49 = .ok (.iconst 2, 1) := by decide +kernel
theorem dX7_init_50 : decode cX7_init 50 = .ok (.anewarray 7, 3) := by decide +kernel
theorem dX7_init_53 : decode cX7_init 53 = .ok (.putfield 33, 3) := by decide +kernel
theorem dX7_init_56 : decode cX7_init 56 = .ok (.aload_n 0, 1) := by decide +kernel
theorem dX7_init_57 : decode cX7_init 57 = .ok (.iconst 2, 1) := by decide +kernel
theorem dX7_init_58 : decode cX7_init 58 = .ok (.newarray .boolean, 2) := by decide +kernel
theorem dX7_init_60 : decode cX7_init 60 = .ok (.putfield 37, 3) := by decide +kernel
theorem dX7_init_63 : decode cX7_init 63 = .ok (.aload_n 0, 1) := by decide +kernel
theorem dX7_init_64 : decode cX7_init 64 = .ok (.new 41, 3) := by decide +kernel
theorem dX7_init_67 : decode cX7_init 67 = .ok (.dup, 1) := by decide +kernel
theorem dX7_init_68 : decode cX7_init 68 = .ok (.invokespecial 43, 3) := by decide +kernel
theorem dX7_init_71 : decode cX7_init 71 = .ok (.putfield 44, 3) := by decide +kernel
theorem dX7_init_74 : decode cX7_init 74 = .ok (.aload_n 0, 1) := by decide +kernel
theorem dX7_init_75 : decode cX7_init 75 = .ok (.new 48, 3) := by decide +kernel
theorem dX7_init_78 : decode cX7_init 78 = .ok (.dup, 1) := by decide +kernel
theorem dX7_init_79 : decode cX7_init 79 = .ok (.invokespecial 50, 3) := by decide +kernel
theorem dX7_init_82 : decode cX7_init 82 = .ok (.putfield 51, 3) := by decide +kernel
theorem dX7_init_85 : decode cX7_init 85 = .ok (.aload_n 0, 1) := by decide +kernel
theorem dX7_init_86 : decode cX7_init 86 = .ok (.new 55, 3) := by decide +kernel
theorem dX7_init_89 : decode cX7_init 89 = .ok (.dup, 1) := by decide +kernel
theorem dX7_init_90 : decode cX7_init 90 = .ok (.invokespecial 57, 3) := by decide +kernel
theorem dX7_init_93 : decode cX7_init 93 = .ok (.putfield 58, 3) := by decide +kernel
theorem dX7_init_96 : decode cX7_init 96 = .ok (.aload_n 0, 1) := by decide +kernel
theorem dX7_init_97 : decode cX7_init 97 = .ok (.new 62, 3) := by decide +kernel
theorem dX7_init_100 : decode cX7_init 100 = .ok (.dup, 1) := by decide +kernel
theorem dX7_init_101 : decode cX7_init 101 = .ok (.invokespecial 64, 3) := by decide +kernel
theorem dX7_init_104 : decode cX7_init 104 = .ok (.putfield 65, 3) := by decide +kernel
theorem dX7_init_107 : decode cX7_init 107 = .ok (.aload_n 0, 1) := by decide +kernel
theorem dX7_init_108 : decode cX7_init 108 = .ok (.bipush (-9), 2) := by decide +kernel
theorem dX7_init_110 : decode cX7_init 110 = .ok (.putfield 69, 3) := by decide +kernel
theorem dX7_init_113 : decode cX7_init 113 = .ok (.iconst 0, 1) := by decide +kernel
theorem dX7_init_114 : decode cX7_init 114 = .ok (.istore_n 1, 1) := by decide +kernel
theorem dX7_init_115 : decode cX7_init 115 = .ok (.iload_n 1, 1) := by decide +kernel
theorem dX7_init_116 : decode cX7_init 116 = .ok (.iconst 2, 1) := by decide +kernel
theorem dX7_init_117 : decode cX7_init 117 = .ok (.if_icmp .ge 22, 3) := by decide +kernel
theorem dX7_init_120 : decode cX7_init 120 = .ok (.aload_n 0, 1) := by decide +kernel
theorem dX7_init_121 : decode cX7_init 121 = .ok (.getfield 33, 3) := by decide +kernel
theorem dX7_init_124 : decode cX7_init 124 = .ok (.iload_n 1, 1) := by decide +kernel
theorem dX7_init_125 : decode cX7_init 125 = .ok (.new 7, 3) := by decide +kernel
theorem dX7_init_128 : decode cX7_init 128 = .ok (.dup, 1) := by decide +kernel
theorem dX7_init_129 : decode cX7_init 129 = .ok (.invokespecial 9, 3) := by decide +kernel
theorem dX7_init_132 : decode cX7_init 132 = .ok (.aastore, 1) := by decide +kernel
theorem dX7_init_133 : decode cX7_init 133 = .ok (.iinc 1 1, 3) := by decide +kernel
theorem dX7_init_136 : decode cX7_init 136 = .ok (.goto (-21), 3) := by decide +kernel
theorem dX7_init_139 : decode cX7_init 139 = .ok (.aload_n 0, 1) := by decide +kernel
theorem dX7_init_140 : decode cX7_init 140 = .ok (.getfield 10, 3) := by decide +kernel
theorem dX7_init_143 : decode cX7_init 143 = .ok (.invokevirtual 73, 3) := by decide +kernel
theorem dX7_init_146 : decode cX7_init 146 = .ok (.aload_n 0, 1) := by decide +kernel
theorem dX7_init_147 : decode cX7_init 147 = .ok (.invokevirtual 76, 3) := by decide +kernel
theorem dX7_init_150 : decode cX7_init 150 = .ok (.return_, 1) := by decide +kernel
theorem dX7_type_0 : decode cX7_type 0 = .ok (.iload_n 1, 1) := by decide +kernel
theorem dX7_type_1 : decode cX7_type 1 = .ok (.ifCond .lt 10, 3) := by decide +kernel
theorem dX7_type_4 : decode cX7_type 4 = .ok (.iload_n 1, 1) := by decide +kernel
theorem dX7_type_5 : decode cX7_type 5 = .ok (.sipush 255, 3) := by decide +kernel
theorem dX7_type_8 : decode cX7_type 8 = .ok (.if_icmp .le 5, 3) := by decide +kernel
theorem dX7_type_11 : decode cX7_type 11 = .ok (.iconst (-1), 1) := by decide +kernel
theorem dX7_type_12 : decode cX7_type 12 = .ok (.ireturn, 1) := by decide +kernel
theorem dX7_type_13 : decode cX7_type 13 = .ok (.aload_n 0, 1) := by decide +kernel
theorem dX7_type_14 : decode cX7_type 14 = .ok (.getfield 22, 3) := by decide +kernel
theorem dX7_type_17 : decode cX7_type 17 = .ok (.getfield 79, 3) := by decide +kernel
theorem dX7_type_20 : decode cX7_type 20 = .ok (.sipush 140, 3) := by decide +kernel
theorem dX7_type_23 : decode cX7_type 23 = .ok (.if_icmp .lt 6, 3) := by decide +kernel
theorem dX7_type_26 : decode cX7_type 26 = .ok (.bipush (-3), 2) := by decide +kernel
theorem dX7_type_28 : decode cX7_type 28 = .ok (.ireturn, 1) := by decide +kernel
theorem dX7_type_29 : decode cX7_type 29 = .ok (.aload_n 0, 1) := by decide +kernel
theorem dX7_type_30 : decode cX7_type 30 = .ok (.getfield 22, 3) := by decide +kernel
theorem dX7_type_33 : decode cX7_type 33 = .ok (.iload_n 1, 1) := by decide +kernel
theorem dX7_type_34 : decode cX7_type 34 = .ok (.i2c, 1) := by decide +kernel
theorem dX7_type_35 : decode cX7_type 35 = .ok (.invokevirtual 82, 3) := by decide +kernel
theorem dX7_type_38 : decode cX7_type 38 = .ok (.aload_n 0, 1) := by decide +kernel
theorem dX7_type_39 : decode cX7_type 39 = .ok (.getfield 22, 3) := by decide +kernel
theorem dX7_type_42 : decode cX7_type 42 = .ok (.getfield 79, 3) := by decide +kernel
theorem dX7_type_45 : decode cX7_type 45 = .ok (.ireturn, 1) := by decide +kernel
theorem dX7_clear_0 : decode cX7_clear 0 = .ok (.aload_n 0, 1) := by decide +kernel
theorem dX7_clear_1 : decode cX7_clear 1 = .ok (.getfield 22, 3) := by decide +kernel
theorem dX7_clear_4 : decode cX7_clear 4 = .ok (.getfield 79, 3) := by decide +kernel
theorem dX7_clear_7 : decode cX7_clear 7 = .ok (.istore_n 1, 1) := by decide +kernel
theorem dX7_clear_8 : decode cX7_clear 8 = .ok (.aload_n 0, 1) := by decide +kernel
theorem dX7_clear_9 : decode cX7_clear 9 = .ok (.getfield 22, 3) := by decide +kernel
theorem dX7_clear_12 : decode cX7_clear 12 = .ok (.iconst 0, 1) := by decide +kernel
theorem dX7_clear_13 : decode cX7_clear 13 = .ok (.putfield 79, 3) := by decide +kernel
theorem dX7_clear_16 : decode cX7_clear 16 = .ok (.iload_n 1, 1) := by decide +kernel
theorem dX7_clear_17 : decode cX7_clear 17 = .ok (.ireturn, 1) := by decide +kernel
theorem dX7_tells_0 : decode cX7_tells 0 = .ok (.aload_n 0, 1) := by decide +kernel
theorem dX7_tells_1 : decode cX7_tells 1 = .ok (.getfield 22, 3) := by decide +kernel
theorem dX7_tells_4 : decode cX7_tells 4 = .ok (.aload_n 0, 1) := by decide +kernel
theorem dX7_tells_5 : decode cX7_tells 5 = .ok (.getfield 16, 3) := by decide +kernel
theorem dX7_tells_8 : decode cX7_tells 8 = .ok (.invokevirtual 86, 3) := by decide +kernel
theorem dX7_tells_11 : decode cX7_tells 11 = .ok (.istore_n 1, 1) := by decide +kernel
theorem dX7_tells_12 : decode cX7_tells 12 = .ok (.iload_n 1, 1) := by decide +kernel
theorem dX7_tells_13 : decode cX7_tells 13 = .ok (.ifCond .ge 5, 3) := by decide +kernel
theorem dX7_tells_16 : decode cX7_tells 16 = .ok (.iload_n 1, 1) := by decide +kernel
theorem dX7_tells_17 : decode cX7_tells 17 = .ok (.ireturn, 1) := by decide +kernel
theorem dX7_tells_18 : decode cX7_tells 18 = .ok (.aload_n 0, 1) := by decide +kernel
theorem dX7_tells_19 : decode cX7_tells 19 = .ok (.getfield 29, 3) := by decide +kernel
theorem dX7_tells_22 : decode cX7_tells 22 = .ok (.aload_n 0, 1) := by decide +kernel
theorem dX7_tells_23 : decode cX7_tells 23 = .ok (.getfield 10, 3) := by decide +kernel
theorem dX7_tells_26 : decode cX7_tells 26 = .ok (.invokevirtual 90, 3) := by decide +kernel
theorem dX7_tells_29 : decode cX7_tells 29 = .ok (.aload_n 0, 1) := by decide +kernel
theorem dX7_tells_30 : decode cX7_tells 30 = .ok (.getfield 10, 3) := by decide +kernel
theorem dX7_tells_33 : decode cX7_tells 33 = .ok (.aload_n 0, 1) := by decide +kernel
theorem dX7_tells_34 : decode cX7_tells 34 = .ok (.getfield 16, 3) := by decide +kernel
theorem dX7_tells_37 : decode cX7_tells 37 = .ok (.invokevirtual 94, 3) := by decide +kernel
theorem dX7_tells_40 : decode cX7_tells 40 = .ok (.aload_n 0, 1) := by decide +kernel
theorem dX7_tells_41 : decode cX7_tells 41 = .ok (.getfield 22, 3) := by decide +kernel
theorem dX7_tells_44 : decode cX7_tells 44 = .ok (.iconst 0, 1) := by decide +kernel
theorem dX7_tells_45 : decode cX7_tells 45 = .ok (.putfield 79, 3) := by decide +kernel
theorem dX7_tells_48 : decode cX7_tells 48 = .ok (.aload_n 0, 1) := by decide +kernel
theorem dX7_tells_49 : decode cX7_tells 49 = .ok (.invokevirtual 76, 3) := by decide +kernel
theorem dX7_tells_52 : decode cX7_tells 52 = .ok (.iload_n 1, 1) := by decide +kernel
theorem dX7_tells_53 : decode cX7_tells 53 = .ok (.ireturn, 1) := by decide +kernel
theorem dX7_levels_0 : decode cX7_levels 0 = .ok (.aload_n 0, 1) := by decide +kernel
theorem dX7_levels_1 : decode cX7_levels 1 = .ok (.getfield 10, 3) := by decide +kernel
theorem dX7_levels_4 : decode cX7_levels 4 = .ok (.iload_n 1, 1) := by decide +kernel
theorem dX7_levels_5 : decode cX7_levels 5 = .ok (.iload_n 2, 1) := by decide +kernel
theorem dX7_levels_6 : decode cX7_levels 6 = .ok (.invokevirtual 97, 3) := by decide +kernel
theorem dX7_levels_9 : decode cX7_levels 9 = .ok (.ifCond .eq 13, 3) := by decide +kernel
theorem dX7_levels_12 : decode cX7_levels 12 = .ok (.iload_n 3, 1) := by decide +kernel
theorem dX7_levels_13 : decode cX7_levels 13 = .ok (.ifCond .lt 9, 3) := by decide +kernel
theorem dX7_levels_16 : decode cX7_levels 16 = .ok (.iload_n 3, 1) := by decide +kernel
theorem dX7_levels_17 : decode cX7_levels 17 = .ok (.bipush 9, 2) := by decide +kernel
theorem dX7_levels_19 : decode cX7_levels 19 = .ok (.if_icmp .le 5, 3) := by decide +kernel
theorem dX7_levels_22 : decode cX7_levels 22 = .ok (.iconst (-1), 1) := by decide +kernel
theorem dX7_levels_23 : decode cX7_levels 23 = .ok (.ireturn, 1) := by decide +kernel
theorem dX7_levels_24 : decode cX7_levels 24 = .ok (.aload_n 0, 1) := by decide +kernel
theorem dX7_levels_25 : decode cX7_levels 25 = .ok (.getfield 10, 3) := by decide +kernel
theorem dX7_levels_28 : decode cX7_levels 28 = .ok (.iload_n 1, 1) := by decide +kernel
theorem dX7_levels_29 : decode cX7_levels 29 = .ok (.iload_n 2, 1) := by decide +kernel
theorem dX7_levels_30 : decode cX7_levels 30 = .ok (.invokevirtual 101, 3) := by decide +kernel
theorem dX7_levels_33 : decode cX7_levels 33 = .ok (.istore 4, 2) := by decide +kernel
theorem dX7_levels_35 : decode cX7_levels 35 = .ok (.iload 4, 2) := by decide +kernel
theorem dX7_levels_37 : decode cX7_levels 37 = .ok (.iload_n 3, 1) := by decide +kernel
theorem dX7_levels_38 : decode cX7_levels 38 = .ok (.if_icmp .ne 6, 3) := by decide +kernel
theorem dX7_levels_41 : decode cX7_levels 41 = .ok (.bipush (-2), 2) := by decide +kernel
theorem dX7_levels_43 : decode cX7_levels 43 = .ok (.ireturn, 1) := by decide +kernel
theorem dX7_levels_44 : decode cX7_levels 44 = .ok (.aload_n 0, 1) := by decide +kernel
theorem dX7_levels_45 : decode cX7_levels 45 = .ok (.getfield 29, 3) := by decide +kernel
theorem dX7_levels_48 : decode cX7_levels 48 = .ok (.aload_n 0, 1) := by decide +kernel
theorem dX7_levels_49 : decode cX7_levels 49 = .ok (.getfield 10, 3) := by decide +kernel
theorem dX7_levels_52 : decode cX7_levels 52 = .ok (.invokevirtual 90, 3) := by decide +kernel
theorem dX7_levels_55 : decode cX7_levels 55 = .ok (.aload_n 0, 1) := by decide +kernel
theorem dX7_levels_56 : decode cX7_levels 56 = .ok (.getfield 10, 3) := by decide +kernel
theorem dX7_levels_59 : decode cX7_levels 59 = .ok (.iload_n 1, 1) := by decide +kernel
theorem dX7_levels_60 : decode cX7_levels 60 = .ok (.iload_n 2, 1) := by decide +kernel
theorem dX7_levels_61 : decode cX7_levels 61 = .ok (.iload_n 3, 1) := by decide +kernel
theorem dX7_levels_62 : decode cX7_levels 62 = .ok (.invokevirtual 105, 3) := by decide +kernel
theorem dX7_levels_65 : decode cX7_levels 65 = .ok (.aload_n 0, 1) := by decide +kernel
theorem dX7_levels_66 : decode cX7_levels 66 = .ok (.invokevirtual 76, 3) := by decide +kernel
theorem dX7_levels_69 : decode cX7_levels 69 = .ok (.iload 4, 2) := by decide +kernel
theorem dX7_levels_71 : decode cX7_levels 71 = .ok (.ireturn, 1) := by decide +kernel
theorem dX7_sets_0 : decode cX7_sets 0 = .ok (.iload_n 1, 1) := by decide +kernel
theorem dX7_sets_1 : decode cX7_sets 1 = .ok (.iload_n 2, 1) := by decide +kernel
theorem dX7_sets_2 : decode cX7_sets 2 = .ok (.invokestatic 109, 3) := by decide +kernel
theorem dX7_sets_5 : decode cX7_sets 5 = .ok (.ifCond .ne 5, 3) := by decide +kernel
theorem dX7_sets_8 : decode cX7_sets 8 = .ok (.iconst (-1), 1) := by decide +kernel
theorem dX7_sets_9 : decode cX7_sets 9 = .ok (.ireturn, 1) := by decide +kernel
theorem dX7_sets_10 : decode cX7_sets 10 = .ok (.aload_n 0, 1) := by decide +kernel
theorem dX7_sets_11 : decode cX7_sets 11 = .ok (.getfield 10, 3) := by decide +kernel
theorem dX7_sets_14 : decode cX7_sets 14 = .ok (.getfield 112, 3) := by decide +kernel
theorem dX7_sets_17 : decode cX7_sets 17 = .ok (.iload_n 1, 1) := by decide +kernel
theorem dX7_sets_18 : decode cX7_sets 18 = .ok (.iaload, 1) := by decide +kernel
theorem dX7_sets_19 : decode cX7_sets 19 = .ok (.istore_n 3, 1) := by decide +kernel
theorem dX7_sets_20 : decode cX7_sets 20 = .ok (.iload_n 3, 1) := by decide +kernel
theorem dX7_sets_21 : decode cX7_sets 21 = .ok (.iload_n 2, 1) := by decide +kernel
theorem dX7_sets_22 : decode cX7_sets 22 = .ok (.if_icmp .ne 6, 3) := by decide +kernel
theorem dX7_sets_25 : decode cX7_sets 25 = .ok (.bipush (-2), 2) := by decide +kernel
theorem dX7_sets_27 : decode cX7_sets 27 = .ok (.ireturn, 1) := by decide +kernel
theorem dX7_sets_28 : decode cX7_sets 28 = .ok (.aload_n 0, 1) := by decide +kernel
theorem dX7_sets_29 : decode cX7_sets 29 = .ok (.getfield 29, 3) := by decide +kernel
theorem dX7_sets_32 : decode cX7_sets 32 = .ok (.aload_n 0, 1) := by decide +kernel
theorem dX7_sets_33 : decode cX7_sets 33 = .ok (.getfield 10, 3) := by decide +kernel
theorem dX7_sets_36 : decode cX7_sets 36 = .ok (.invokevirtual 90, 3) := by decide +kernel
theorem dX7_sets_39 : decode cX7_sets 39 = .ok (.aload_n 0, 1) := by decide +kernel
theorem dX7_sets_40 : decode cX7_sets 40 = .ok (.getfield 10, 3) := by decide +kernel
theorem dX7_sets_43 : decode cX7_sets 43 = .ok (.getfield 112, 3) := by decide +kernel
theorem dX7_sets_46 : decode cX7_sets 46 = .ok (.iload_n 1, 1) := by decide +kernel
theorem dX7_sets_47 : decode cX7_sets 47 = .ok (.iload_n 2, 1) := by decide +kernel
theorem dX7_sets_48 : decode cX7_sets 48 = .ok (.iastore, 1) := by decide +kernel
theorem dX7_sets_49 : decode cX7_sets 49 = .ok (.aload_n 0, 1) := by decide +kernel
theorem dX7_sets_50 : decode cX7_sets 50 = .ok (.invokevirtual 76, 3) := by decide +kernel
theorem dX7_sets_53 : decode cX7_sets 53 = .ok (.iload_n 3, 1) := by decide +kernel
theorem dX7_sets_54 : decode cX7_sets 54 = .ok (.ireturn, 1) := by decide +kernel
theorem dX7_undo_0 : decode cX7_undo 0 = .ok (.aload_n 0, 1) := by decide +kernel
theorem dX7_undo_1 : decode cX7_undo 1 = .ok (.getfield 29, 3) := by decide +kernel
theorem dX7_undo_4 : decode cX7_undo 4 = .ok (.getfield 116, 3) := by decide +kernel
theorem dX7_undo_7 : decode cX7_undo 7 = .ok (.ifCond .ne 6, 3) := by decide +kernel
theorem dX7_undo_10 : decode cX7_undo 10 = .ok (.bipush (-2), 2) := by decide +kernel
theorem dX7_undo_12 : decode cX7_undo 12 = .ok (.ireturn, 1) := by decide +kernel
theorem dX7_undo_13 : decode cX7_undo 13 = .ok (.aload_n 0, 1) := by decide +kernel
theorem dX7_undo_14 : decode cX7_undo 14 = .ok (.getfield 29, 3) := by decide +kernel
theorem dX7_undo_17 : decode cX7_undo 17 = .ok (.aload_n 0, 1) := by decide +kernel
theorem dX7_undo_18 : decode cX7_undo 18 = .ok (.getfield 10, 3) := by decide +kernel
theorem dX7_undo_21 : decode cX7_undo 21 = .ok (.invokevirtual 119, 3) := by decide +kernel
theorem dX7_undo_24 : decode cX7_undo 24 = .ok (.aload_n 0, 1) := by decide +kernel
theorem dX7_undo_25 : decode cX7_undo 25 = .ok (.invokevirtual 76, 3) := by decide +kernel
theorem dX7_undo_28 : decode cX7_undo 28 = .ok (.aload_n 0, 1) := by decide +kernel
theorem dX7_undo_29 : decode cX7_undo 29 = .ok (.getfield 29, 3) := by decide +kernel
theorem dX7_undo_32 : decode cX7_undo 32 = .ok (.getfield 116, 3) := by decide +kernel
theorem dX7_undo_35 : decode cX7_undo 35 = .ok (.ireturn, 1) := by decide +kernel
theorem dX7_level_0 : decode cX7_level 0 = .ok (.aload_n 0, 1) := by decide +kernel
theorem dX7_level_1 : decode cX7_level 1 = .ok (.getfield 10, 3) := by decide +kernel
theorem dX7_level_4 : decode cX7_level 4 = .ok (.iload_n 1, 1) := by decide +kernel
theorem dX7_level_5 : decode cX7_level 5 = .ok (.iload_n 2, 1) := by decide +kernel
theorem dX7_level_6 : decode cX7_level 6 = .ok (.invokevirtual 97, 3) := by decide +kernel
theorem dX7_level_9 : decode cX7_level 9 = .ok (.ifCond .eq 15, 3) := by decide +kernel
theorem dX7_level_12 : decode cX7_level 12 = .ok (.aload_n 0, 1) := by decide +kernel
theorem dX7_level_13 : decode cX7_level 13 = .ok (.getfield 10, 3) := by decide +kernel
theorem dX7_level_16 : decode cX7_level 16 = .ok (.iload_n 1, 1) := by decide +kernel
theorem dX7_level_17 : decode cX7_level 17 = .ok (.iload_n 2, 1) := by decide +kernel
theorem dX7_level_18 : decode cX7_level 18 = .ok (.invokevirtual 101, 3) := by decide +kernel
theorem dX7_level_21 : decode cX7_level 21 = .ok (.goto 4, 3) := by decide +kernel
theorem dX7_level_24 : decode cX7_level 24 = .ok (.iconst (-1), 1) := by decide +kernel
theorem dX7_level_25 : decode cX7_level 25 = .ok (.ireturn, 1) := by decide +kernel
theorem dX7_peak_0 : decode cX7_peak 0 = .ok (.aload_n 0, 1) := by decide +kernel
theorem dX7_peak_1 : decode cX7_peak 1 = .ok (.getfield 10, 3) := by decide +kernel
theorem dX7_peak_4 : decode cX7_peak 4 = .ok (.iload_n 1, 1) := by decide +kernel
theorem dX7_peak_5 : decode cX7_peak 5 = .ok (.invokevirtual 122, 3) := by decide +kernel
theorem dX7_peak_8 : decode cX7_peak 8 = .ok (.ifCond .eq 16, 3) := by decide +kernel
theorem dX7_peak_11 : decode cX7_peak 11 = .ok (.iload_n 2, 1) := by decide +kernel
theorem dX7_peak_12 : decode cX7_peak 12 = .ok (.ifCond .lt 12, 3) := by decide +kernel
theorem dX7_peak_15 : decode cX7_peak 15 = .ok (.iload_n 3, 1) := by decide +kernel
theorem dX7_peak_16 : decode cX7_peak 16 = .ok (.ifCond .lt 8, 3) := by decide +kernel
theorem dX7_peak_19 : decode cX7_peak 19 = .ok (.iload_n 3, 1) := by decide +kernel
theorem dX7_peak_20 : decode cX7_peak 20 = .ok (.iconst 4, 1) := by decide +kernel
theorem dX7_peak_21 : decode cX7_peak 21 = .ok (.if_icmp .le 6, 3) := by decide +kernel
theorem dX7_peak_24 : decode cX7_peak 24 = .ok (.ldc 126, 2) := by decide +kernel
theorem dX7_peak_26 : decode cX7_peak 26 = .ok (.ireturn, 1) := by decide +kernel
theorem dX7_peak_27 : decode cX7_peak 27 = .ok (.iload_n 2, 1) := by decide +kernel
theorem dX7_peak_28 : decode cX7_peak 28 = .ok (.aload_n 0, 1) := by decide +kernel
theorem dX7_peak_29 : decode cX7_peak 29 = .ok (.getfield 44, 3) := by decide +kernel
theorem dX7_peak_32 : decode cX7_peak 32 = .ok (.getfield 127, 3) := by decide +kernel
theorem dX7_peak_35 : decode cX7_peak 35 = .ok (.iload_n 1, 1) := by decide +kernel
theorem dX7_peak_36 : decode cX7_peak 36 = .ok (.iaload, 1) := by decide +kernel
theorem dX7_peak_37 : decode cX7_peak 37 = .ok (.if_icmp .lt 6, 3) := by decide +kernel
theorem dX7_peak_40 : decode cX7_peak 40 = .ok (.bipush (-9), 2) := by decide +kernel
theorem dX7_peak_42 : decode cX7_peak 42 = .ok (.ireturn, 1) := by decide +kernel
theorem dX7_peak_43 : decode cX7_peak 43 = .ok (.iload_n 1, 1) := by decide +kernel
theorem dX7_peak_44 : decode cX7_peak 44 = .ok (.bipush 6, 2) := by decide +kernel
theorem dX7_peak_46 : decode cX7_peak 46 = .ok (.imul, 1) := by decide +kernel
theorem dX7_peak_47 : decode cX7_peak 47 = .ok (.iload_n 2, 1) := by decide +kernel
theorem dX7_peak_48 : decode cX7_peak 48 = .ok (.iadd, 1) := by decide +kernel
theorem dX7_peak_49 : decode cX7_peak 49 = .ok (.istore 4, 2) := by decide +kernel
theorem dX7_peak_51 : decode cX7_peak 51 = .ok (.iload_n 3, 1) := by decide +kernel
theorem dX7_peak_52 : decode cX7_peak 52 = .ok (.tableswitch 76 0 3 #[32, 43, 54, 65], 32) := by decide +kernel
theorem dX7_peak_84 : decode cX7_peak 84 = .ok (.aload_n 0, 1) := by decide +kernel
theorem dX7_peak_85 : decode cX7_peak 85 = .ok (.getfield 44, 3) := by decide +kernel
theorem dX7_peak_88 : decode cX7_peak 88 = .ok (.getfield 130, 3) := by decide +kernel
theorem dX7_peak_91 : decode cX7_peak 91 = .ok (.iload 4, 2) := by decide +kernel
theorem dX7_peak_93 : decode cX7_peak 93 = .ok (.iaload, 1) := by decide +kernel
theorem dX7_peak_94 : decode cX7_peak 94 = .ok (.ireturn, 1) := by decide +kernel
theorem dX7_peak_95 : decode cX7_peak 95 = .ok (.aload_n 0, 1) := by decide +kernel
theorem dX7_peak_96 : decode cX7_peak 96 = .ok (.getfield 44, 3) := by decide +kernel
theorem dX7_peak_99 : decode cX7_peak 99 = .ok (.getfield 133, 3) := by decide +kernel
theorem dX7_peak_102 : decode cX7_peak 102 = .ok (.iload 4, 2) := by decide +kernel
theorem dX7_peak_104 : decode cX7_peak 104 = .ok (.iaload, 1) := by decide +kernel
theorem dX7_peak_105 : decode cX7_peak 105 = .ok (.ireturn, 1) := by decide +kernel
theorem dX7_peak_106 : decode cX7_peak 106 = .ok (.aload_n 0, 1) := by decide +kernel
theorem dX7_peak_107 : decode cX7_peak 107 = .ok (.getfield 44, 3) := by decide +kernel
theorem dX7_peak_110 : decode cX7_peak 110 = .ok (.getfield 136, 3) := by decide +kernel
theorem dX7_peak_113 : decode cX7_peak 113 = .ok (.iload 4, 2) := by decide +kernel
theorem dX7_peak_115 : decode cX7_peak 115 = .ok (.iaload, 1) := by decide +kernel
theorem dX7_peak_116 : decode cX7_peak 116 = .ok (.ireturn, 1) := by decide +kernel
theorem dX7_peak_117 : decode cX7_peak 117 = .ok (.aload_n 0, 1) := by decide +kernel
theorem dX7_peak_118 : decode cX7_peak 118 = .ok (.getfield 58, 3) := by decide +kernel
theorem dX7_peak_121 : decode cX7_peak 121 = .ok (.getfield 139, 3) := by decide +kernel
theorem dX7_peak_124 : decode cX7_peak 124 = .ok (.iload 4, 2) := by decide +kernel
theorem dX7_peak_126 : decode cX7_peak 126 = .ok (.iaload, 1) := by decide +kernel
theorem dX7_peak_127 : decode cX7_peak 127 = .ok (.ireturn, 1) := by decide +kernel
theorem dX7_peak_128 : decode cX7_peak 128 = .ok (.aload_n 0, 1) := by decide +kernel
theorem dX7_peak_129 : decode cX7_peak 129 = .ok (.getfield 58, 3) := by decide +kernel
theorem dX7_peak_132 : decode cX7_peak 132 = .ok (.getfield 142, 3) := by decide +kernel
theorem dX7_peak_135 : decode cX7_peak 135 = .ok (.iload 4, 2) := by decide +kernel
theorem dX7_peak_137 : decode cX7_peak 137 = .ok (.iaload, 1) := by decide +kernel
theorem dX7_peak_138 : decode cX7_peak 138 = .ok (.ireturn, 1) := by decide +kernel
theorem dX7_frame_0 : decode cX7_frame 0 = .ok (.aload_n 0, 1) := by decide +kernel
theorem dX7_frame_1 : decode cX7_frame 1 = .ok (.getfield 10, 3) := by decide +kernel
theorem dX7_frame_4 : decode cX7_frame 4 = .ok (.iload_n 1, 1) := by decide +kernel
theorem dX7_frame_5 : decode cX7_frame 5 = .ok (.invokevirtual 122, 3) := by decide +kernel
theorem dX7_frame_8 : decode cX7_frame 8 = .ok (.ifCond .ne 5, 3) := by decide +kernel
theorem dX7_frame_11 : decode cX7_frame 11 = .ok (.iconst (-1), 1) := by decide +kernel
theorem dX7_frame_12 : decode cX7_frame 12 = .ok (.ireturn, 1) := by decide +kernel
theorem dX7_frame_13 : decode cX7_frame 13 = .ok (.iload_n 2, 1) := by decide +kernel
theorem dX7_frame_14 : decode cX7_frame 14 = .ok (.tableswitch 76 0 4 #[34, 44, 51, 58, 67], 34) := by decide +kernel
theorem dX7_frame_48 : decode cX7_frame 48 = .ok (.aload_n 0, 1) := by decide +kernel
theorem dX7_frame_49 : decode cX7_frame 49 = .ok (.getfield 44, 3) := by decide +kernel
theorem dX7_frame_52 : decode cX7_frame 52 = .ok (.getfield 127, 3) := by decide +kernel
theorem dX7_frame_55 : decode cX7_frame 55 = .ok (.iload_n 1, 1) := by decide +kernel
theorem dX7_frame_56 : decode cX7_frame 56 = .ok (.iaload, 1) := by decide +kernel
theorem dX7_frame_57 : decode cX7_frame 57 = .ok (.ireturn, 1) := by decide +kernel
theorem dX7_frame_58 : decode cX7_frame 58 = .ok (.aload_n 0, 1) := by decide +kernel
theorem dX7_frame_59 : decode cX7_frame 59 = .ok (.iload_n 1, 1) := by decide +kernel
theorem dX7_frame_60 : decode cX7_frame 60 = .ok (.iconst 1, 1) := by decide +kernel
theorem dX7_frame_61 : decode cX7_frame 61 = .ok (.invokevirtual 145, 3) := by decide +kernel
theorem dX7_frame_64 : decode cX7_frame 64 = .ok (.ireturn, 1) := by decide +kernel
theorem dX7_frame_65 : decode cX7_frame 65 = .ok (.aload_n 0, 1) := by decide +kernel
theorem dX7_frame_66 : decode cX7_frame 66 = .ok (.iload_n 1, 1) := by decide +kernel
theorem dX7_frame_67 : decode cX7_frame 67 = .ok (.iconst 0, 1) := by decide +kernel
theorem dX7_frame_68 : decode cX7_frame 68 = .ok (.invokevirtual 145, 3) := by decide +kernel
theorem dX7_frame_71 : decode cX7_frame 71 = .ok (.ireturn, 1) := by decide +kernel
theorem dX7_frame_72 : decode cX7_frame 72 = .ok (.aload_n 0, 1) := by decide +kernel
theorem dX7_frame_73 : decode cX7_frame 73 = .ok (.getfield 58, 3) := by decide +kernel
theorem dX7_frame_76 : decode cX7_frame 76 = .ok (.iload_n 1, 1) := by decide +kernel
theorem dX7_frame_77 : decode cX7_frame 77 = .ok (.invokevirtual 149, 3) := by decide +kernel
theorem dX7_frame_80 : decode cX7_frame 80 = .ok (.ireturn, 1) := by decide +kernel
theorem dX7_frame_81 : decode cX7_frame 81 = .ok (.aload_n 0, 1) := by decide +kernel
theorem dX7_frame_82 : decode cX7_frame 82 = .ok (.getfield 58, 3) := by decide +kernel
theorem dX7_frame_85 : decode cX7_frame 85 = .ok (.iload_n 1, 1) := by decide +kernel
theorem dX7_frame_86 : decode cX7_frame 86 = .ok (.invokevirtual 153, 3) := by decide +kernel
theorem dX7_frame_89 : decode cX7_frame 89 = .ok (.ireturn, 1) := by decide +kernel
theorem dX7_frame_90 : decode cX7_frame 90 = .ok (.iconst (-1), 1) := by decide +kernel
theorem dX7_frame_91 : decode cX7_frame 91 = .ok (.ireturn, 1) := by decide +kernel
theorem dX7_track_0 : decode cX7_track 0 = .ok (.iload_n 1, 1) := by decide +kernel
theorem dX7_track_1 : decode cX7_track 1 = .ok (.ifCond .lt 14, 3) := by decide +kernel
theorem dX7_track_4 : decode cX7_track 4 = .ok (.iload_n 1, 1) := by decide +kernel
theorem dX7_track_5 : decode cX7_track 5 = .ok (.aload_n 0, 1) := by decide +kernel
theorem dX7_track_6 : decode cX7_track 6 = .ok (.getfield 58, 3) := by decide +kernel
theorem dX7_track_9 : decode cX7_track 9 = .ok (.getfield 156, 3) := by decide +kernel
theorem dX7_track_12 : decode cX7_track 12 = .ok (.if_icmp .lt 6, 3) := by decide +kernel
theorem dX7_track_15 : decode cX7_track 15 = .ok (.ldc 126, 2) := by decide +kernel
theorem dX7_track_17 : decode cX7_track 17 = .ok (.ireturn, 1) := by decide +kernel
theorem dX7_track_18 : decode cX7_track 18 = .ok (.iload_n 2, 1) := by decide +kernel
theorem dX7_track_19 : decode cX7_track 19 = .ok (.tableswitch 136 0 7 #[45, 55, 65, 79, 89, 99, 109, 118], 45) := by decide +kernel
theorem dX7_track_64 : decode cX7_track 64 = .ok (.aload_n 0, 1) := by decide +kernel
theorem dX7_track_65 : decode cX7_track 65 = .ok (.getfield 58, 3) := by decide +kernel
theorem dX7_track_68 : decode cX7_track 68 = .ok (.getfield 158, 3) := by decide +kernel
theorem dX7_track_71 : decode cX7_track 71 = .ok (.iload_n 1, 1) := by decide +kernel
theorem dX7_track_72 : decode cX7_track 72 = .ok (.iaload, 1) := by decide +kernel
theorem dX7_track_73 : decode cX7_track 73 = .ok (.ireturn, 1) := by decide +kernel
theorem dX7_track_74 : decode cX7_track 74 = .ok (.aload_n 0, 1) := by decide +kernel
theorem dX7_track_75 : decode cX7_track 75 = .ok (.getfield 58, 3) := by decide +kernel
theorem dX7_track_78 : decode cX7_track 78 = .ok (.getfield 161, 3) := by decide +kernel
theorem dX7_track_81 : decode cX7_track 81 = .ok (.iload_n 1, 1) := by decide +kernel
theorem dX7_track_82 : decode cX7_track 82 = .ok (.iaload, 1) := by decide +kernel
theorem dX7_track_83 : decode cX7_track 83 = .ok (.ireturn, 1) := by decide +kernel
theorem dX7_track_84 : decode cX7_track 84 = .ok (.aload_n 0, 1) := by decide +kernel
theorem dX7_track_85 : decode cX7_track 85 = .ok (.iload_n 1, 1) := by decide +kernel
theorem dX7_track_86 : decode cX7_track 86 = .ok (.invokevirtual 164, 3) := by decide +kernel
theorem dX7_track_89 : decode cX7_track 89 = .ok (.ifCond .eq 7, 3) := by decide +kernel
theorem dX7_track_92 : decode cX7_track 92 = .ok (.iconst 1, 1) := by decide +kernel
theorem dX7_track_93 : decode cX7_track 93 = .ok (.goto 4, 3) := by decide +kernel
theorem dX7_track_96 : decode cX7_track 96 = .ok (.iconst 0, 1) := by decide +kernel
theorem dX7_track_97 : decode cX7_track 97 = .ok (.ireturn, 1) := by decide +kernel
theorem dX7_track_98 : decode cX7_track 98 = .ok (.aload_n 0, 1) := by decide +kernel
theorem dX7_track_99 : decode cX7_track 99 = .ok (.getfield 58, 3) := by decide +kernel
theorem dX7_track_102 : decode cX7_track 102 = .ok (.getfield 167, 3) := by decide +kernel
theorem dX7_track_105 : decode cX7_track 105 = .ok (.iload_n 1, 1) := by decide +kernel
theorem dX7_track_106 : decode cX7_track 106 = .ok (.iaload, 1) := by decide +kernel
theorem dX7_track_107 : decode cX7_track 107 = .ok (.ireturn, 1) := by decide +kernel
theorem dX7_track_108 : decode cX7_track 108 = .ok (.aload_n 0, 1) := by decide +kernel
theorem dX7_track_109 : decode cX7_track 109 = .ok (.getfield 58, 3) := by decide +kernel
theorem dX7_track_112 : decode cX7_track 112 = .ok (.getfield 170, 3) := by decide +kernel
theorem dX7_track_115 : decode cX7_track 115 = .ok (.iload_n 1, 1) := by decide +kernel
theorem dX7_track_116 : decode cX7_track 116 = .ok (.iaload, 1) := by decide +kernel
theorem dX7_track_117 : decode cX7_track 117 = .ok (.ireturn, 1) := by decide +kernel
theorem dX7_track_118 : decode cX7_track 118 = .ok (.aload_n 0, 1) := by decide +kernel
theorem dX7_track_119 : decode cX7_track 119 = .ok (.getfield 58, 3) := by decide +kernel
theorem dX7_track_122 : decode cX7_track 122 = .ok (.getfield 173, 3) := by decide +kernel
theorem dX7_track_125 : decode cX7_track 125 = .ok (.iload_n 1, 1) := by decide +kernel
theorem dX7_track_126 : decode cX7_track 126 = .ok (.iaload, 1) := by decide +kernel
theorem dX7_track_127 : decode cX7_track 127 = .ok (.ireturn, 1) := by decide +kernel
theorem dX7_track_128 : decode cX7_track 128 = .ok (.aload_n 0, 1) := by decide +kernel
theorem dX7_track_129 : decode cX7_track 129 = .ok (.getfield 58, 3) := by decide +kernel
theorem dX7_track_132 : decode cX7_track 132 = .ok (.iload_n 1, 1) := by decide +kernel
theorem dX7_track_133 : decode cX7_track 133 = .ok (.invokevirtual 176, 3) := by decide +kernel
theorem dX7_track_136 : decode cX7_track 136 = .ok (.ireturn, 1) := by decide +kernel
theorem dX7_track_137 : decode cX7_track 137 = .ok (.aload_n 0, 1) := by decide +kernel
theorem dX7_track_138 : decode cX7_track 138 = .ok (.getfield 58, 3) := by decide +kernel
theorem dX7_track_141 : decode cX7_track 141 = .ok (.iload_n 1, 1) := by decide +kernel
theorem dX7_track_142 : decode cX7_track 142 = .ok (.aload_n 0, 1) := by decide +kernel
theorem dX7_track_143 : decode cX7_track 143 = .ok (.getfield 58, 3) := by decide +kernel
theorem dX7_track_146 : decode cX7_track 146 = .ok (.getfield 158, 3) := by decide +kernel
theorem dX7_track_149 : decode cX7_track 149 = .ok (.iload_n 1, 1) := by decide +kernel
theorem dX7_track_150 : decode cX7_track 150 = .ok (.iaload, 1) := by decide +kernel
theorem dX7_track_151 : decode cX7_track 151 = .ok (.invokevirtual 179, 3) := by decide +kernel
theorem dX7_track_154 : decode cX7_track 154 = .ok (.ireturn, 1) := by decide +kernel
theorem dX7_track_155 : decode cX7_track 155 = .ok (.ldc 126, 2) := by decide +kernel
theorem dX7_track_157 : decode cX7_track 157 = .ok (.ireturn, 1) := by decide +kernel
theorem dX7_pitch_0 : decode cX7_pitch 0 = .ok (.iload_n 1, 1) := by decide +kernel
theorem dX7_pitch_1 : decode cX7_pitch 1 = .ok (.ifCond .lt 25, 3) := by decide +kernel
theorem dX7_pitch_4 : decode cX7_pitch 4 = .ok (.iload_n 1, 1) := by decide +kernel
theorem dX7_pitch_5 : decode cX7_pitch 5 = .ok (.aload_n 0, 1) := by decide +kernel
theorem dX7_pitch_6 : decode cX7_pitch 6 = .ok (.getfield 58, 3) := by decide +kernel
theorem dX7_pitch_9 : decode cX7_pitch 9 = .ok (.getfield 156, 3) := by decide +kernel
theorem dX7_pitch_12 : decode cX7_pitch 12 = .ok (.if_icmp .ge 14, 3) := by decide +kernel
theorem dX7_pitch_15 : decode cX7_pitch 15 = .ok (.aload_n 0, 1) := by decide +kernel
theorem dX7_pitch_16 : decode cX7_pitch 16 = .ok (.getfield 10, 3) := by decide +kernel
theorem dX7_pitch_19 : decode cX7_pitch 19 = .ok (.iload_n 2, 1) := by decide +kernel
theorem dX7_pitch_20 : decode cX7_pitch 20 = .ok (.invokevirtual 122, 3) := by decide +kernel
theorem dX7_pitch_23 : decode cX7_pitch 23 = .ok (.ifCond .ne 6, 3) := by decide +kernel
theorem dX7_pitch_26 : decode cX7_pitch 26 = .ok (.ldc 126, 2) := by decide +kernel
theorem dX7_pitch_28 : decode cX7_pitch 28 = .ok (.ireturn, 1) := by decide +kernel
theorem dX7_pitch_29 : decode cX7_pitch 29 = .ok (.aload_n 0, 1) := by decide +kernel
theorem dX7_pitch_30 : decode cX7_pitch 30 = .ok (.getfield 58, 3) := by decide +kernel
theorem dX7_pitch_33 : decode cX7_pitch 33 = .ok (.iload_n 1, 1) := by decide +kernel
theorem dX7_pitch_34 : decode cX7_pitch 34 = .ok (.iload_n 2, 1) := by decide +kernel
theorem dX7_pitch_35 : decode cX7_pitch 35 = .ok (.invokevirtual 179, 3) := by decide +kernel
theorem dX7_pitch_38 : decode cX7_pitch 38 = .ok (.ireturn, 1) := by decide +kernel
theorem dX7_best_0 : decode cX7_best 0 = .ok (.iload_n 1, 1) := by decide +kernel
theorem dX7_best_1 : decode cX7_best 1 = .ok (.ifCond .lt 8, 3) := by decide +kernel
theorem dX7_best_4 : decode cX7_best 4 = .ok (.iload_n 1, 1) := by decide +kernel
theorem dX7_best_5 : decode cX7_best 5 = .ok (.iconst 1, 1) := by decide +kernel
theorem dX7_best_6 : decode cX7_best 6 = .ok (.if_icmp .le 5, 3) := by decide +kernel
theorem dX7_best_9 : decode cX7_best 9 = .ok (.iconst (-1), 1) := by decide +kernel
theorem dX7_best_10 : decode cX7_best 10 = .ok (.ireturn, 1) := by decide +kernel
theorem dX7_best_11 : decode cX7_best 11 = .ok (.aload_n 0, 1) := by decide +kernel
theorem dX7_best_12 : decode cX7_best 12 = .ok (.getfield 69, 3) := by decide +kernel
theorem dX7_best_15 : decode cX7_best 15 = .ok (.bipush (-9), 2) := by decide +kernel
theorem dX7_best_17 : decode cX7_best 17 = .ok (.if_icmp .ne 54, 3) := by decide +kernel
theorem dX7_best_20 : decode cX7_best 20 = .ok (.aload_n 0, 1) := by decide +kernel
theorem dX7_best_21 : decode cX7_best 21 = .ok (.bipush 49, 2) := by decide +kernel
theorem dX7_best_23 : decode cX7_best 23 = .ok (.putfield 182, 3) := by decide +kernel
theorem dX7_best_26 : decode cX7_best 26 = .ok (.getstatic 185, 3) := by decide +kernel
theorem dX7_best_29 : decode cX7_best 29 = .ok (.iconst 1, 1) := by decide +kernel
theorem dX7_best_30 : decode cX7_best 30 = .ok (.iaload, 1) := by decide +kernel
theorem dX7_best_31 : decode cX7_best 31 = .ok (.istore_n 2, 1) := by decide +kernel
theorem dX7_best_32 : decode cX7_best 32 = .ok (.iload_n 2, 1) := by decide +kernel
theorem dX7_best_33 : decode cX7_best 33 = .ok (.getstatic 188, 3) := by decide +kernel
theorem dX7_best_36 : decode cX7_best 36 = .ok (.iconst 1, 1) := by decide +kernel
theorem dX7_best_37 : decode cX7_best 37 = .ok (.iaload, 1) := by decide +kernel
theorem dX7_best_38 : decode cX7_best 38 = .ok (.if_icmp .gt 33, 3) := by decide +kernel
theorem dX7_best_41 : decode cX7_best 41 = .ok (.aload_n 0, 1) := by decide +kernel
theorem dX7_best_42 : decode cX7_best 42 = .ok (.iload_n 2, 1) := by decide +kernel
theorem dX7_best_43 : decode cX7_best 43 = .ok (.invokevirtual 191, 3) := by decide +kernel
theorem dX7_best_46 : decode cX7_best 46 = .ok (.istore_n 3, 1) := by decide +kernel
theorem dX7_best_47 : decode cX7_best 47 = .ok (.iload_n 3, 1) := by decide +kernel
theorem dX7_best_48 : decode cX7_best 48 = .ok (.aload_n 0, 1) := by decide +kernel
theorem dX7_best_49 : decode cX7_best 49 = .ok (.getfield 182, 3) := by decide +kernel
theorem dX7_best_52 : decode cX7_best 52 = .ok (.if_icmp .ge 13, 3) := by decide +kernel
theorem dX7_best_55 : decode cX7_best 55 = .ok (.aload_n 0, 1) := by decide +kernel
theorem dX7_best_56 : decode cX7_best 56 = .ok (.iload_n 3, 1) := by decide +kernel
theorem dX7_best_57 : decode cX7_best 57 = .ok (.putfield 182, 3) := by decide +kernel
theorem dX7_best_60 : decode cX7_best 60 = .ok (.aload_n 0, 1) := by decide +kernel
theorem dX7_best_61 : decode cX7_best 61 = .ok (.iload_n 2, 1) := by decide +kernel
theorem dX7_best_62 : decode cX7_best 62 = .ok (.putfield 69, 3) := by decide +kernel
theorem dX7_best_65 : decode cX7_best 65 = .ok (.iinc 2 1, 3) := by decide +kernel
theorem dX7_best_68 : decode cX7_best 68 = .ok (.goto (-36), 3) := by decide +kernel
theorem dX7_best_71 : decode cX7_best 71 = .ok (.iload_n 1, 1) := by decide +kernel
theorem dX7_best_72 : decode cX7_best 72 = .ok (.ifCond .ne 10, 3) := by decide +kernel
theorem dX7_best_75 : decode cX7_best 75 = .ok (.aload_n 0, 1) := by decide +kernel
theorem dX7_best_76 : decode cX7_best 76 = .ok (.getfield 69, 3) := by decide +kernel
theorem dX7_best_79 : decode cX7_best 79 = .ok (.goto 7, 3) := by decide +kernel
theorem dX7_best_82 : decode cX7_best 82 = .ok (.aload_n 0, 1) := by decide +kernel
theorem dX7_best_83 : decode cX7_best 83 = .ok (.getfield 182, 3) := by decide +kernel
theorem dX7_best_86 : decode cX7_best 86 = .ok (.ireturn, 1) := by decide +kernel
theorem dX7_sees_0 : decode cX7_sees 0 = .ok (.iload_n 2, 1) := by decide +kernel
theorem dX7_sees_1 : decode cX7_sees 1 = .ok (.iconst (-1), 1) := by decide +kernel
theorem dX7_sees_2 : decode cX7_sees 2 = .ok (.if_icmp .lt 13, 3) := by decide +kernel
theorem dX7_sees_5 : decode cX7_sees 5 = .ok (.iload_n 2, 1) := by decide +kernel
theorem dX7_sees_6 : decode cX7_sees 6 = .ok (.bipush 45, 2) := by decide +kernel
theorem dX7_sees_8 : decode cX7_sees 8 = .ok (.if_icmp .gt 7, 3) := by decide +kernel
theorem dX7_sees_11 : decode cX7_sees 11 = .ok (.iconst 1, 1) := by decide +kernel
theorem dX7_sees_12 : decode cX7_sees 12 = .ok (.goto 4, 3) := by decide +kernel
theorem dX7_sees_15 : decode cX7_sees 15 = .ok (.iconst 0, 1) := by decide +kernel
theorem dX7_sees_16 : decode cX7_sees 16 = .ok (.istore_n 3, 1) := by decide +kernel
theorem dX7_sees_17 : decode cX7_sees 17 = .ok (.iload_n 1, 1) := by decide +kernel
theorem dX7_sees_18 : decode cX7_sees 18 = .ok (.ifCond .lt 19, 3) := by decide +kernel
theorem dX7_sees_21 : decode cX7_sees 21 = .ok (.iload_n 1, 1) := by decide +kernel
theorem dX7_sees_22 : decode cX7_sees 22 = .ok (.bipush 8, 2) := by decide +kernel
theorem dX7_sees_24 : decode cX7_sees 24 = .ok (.if_icmp .ge 13, 3) := by decide +kernel
theorem dX7_sees_27 : decode cX7_sees 27 = .ok (.iload_n 3, 1) := by decide +kernel
theorem dX7_sees_28 : decode cX7_sees 28 = .ok (.ifCond .ne 11, 3) := by decide +kernel
theorem dX7_sees_31 : decode cX7_sees 31 = .ok (.iload_n 2, 1) := by decide +kernel
theorem dX7_sees_32 : decode cX7_sees 32 = .ok (.bipush (-9), 2) := by decide +kernel
theorem dX7_sees_34 : decode cX7_sees 34 = .ok (.if_icmp .eq 5, 3) := by decide +kernel
theorem dX7_sees_37 : decode cX7_sees 37 = .ok (.iconst (-1), 1) := by decide +kernel
theorem dX7_sees_38 : decode cX7_sees 38 = .ok (.ireturn, 1) := by decide +kernel
theorem dX7_sees_39 : decode cX7_sees 39 = .ok (.aload_n 0, 1) := by decide +kernel
theorem dX7_sees_40 : decode cX7_sees 40 = .ok (.getfield 65, 3) := by decide +kernel
theorem dX7_sees_43 : decode cX7_sees 43 = .ok (.getfield 194, 3) := by decide +kernel
theorem dX7_sees_46 : decode cX7_sees 46 = .ok (.bipush 6, 2) := by decide +kernel
theorem dX7_sees_48 : decode cX7_sees 48 = .ok (.if_icmp .lt 6, 3) := by decide +kernel
theorem dX7_sees_51 : decode cX7_sees 51 = .ok (.bipush (-3), 2) := by decide +kernel
theorem dX7_sees_53 : decode cX7_sees 53 = .ok (.ireturn, 1) := by decide +kernel
theorem dX7_sees_54 : decode cX7_sees 54 = .ok (.aload_n 0, 1) := by decide +kernel
theorem dX7_sees_55 : decode cX7_sees 55 = .ok (.getfield 65, 3) := by decide +kernel
theorem dX7_sees_58 : decode cX7_sees 58 = .ok (.iload_n 1, 1) := by decide +kernel
theorem dX7_sees_59 : decode cX7_sees 59 = .ok (.iload_n 2, 1) := by decide +kernel
theorem dX7_sees_60 : decode cX7_sees 60 = .ok (.invokevirtual 195, 3) := by decide +kernel
theorem dX7_sees_63 : decode cX7_sees 63 = .ok (.aload_n 0, 1) := by decide +kernel
theorem dX7_sees_64 : decode cX7_sees 64 = .ok (.getfield 65, 3) := by decide +kernel
theorem dX7_sees_67 : decode cX7_sees 67 = .ok (.getfield 194, 3) := by decide +kernel
theorem dX7_sees_70 : decode cX7_sees 70 = .ok (.ireturn, 1) := by decide +kernel
theorem dX7_forget_0 : decode cX7_forget 0 = .ok (.aload_n 0, 1) := by decide +kernel
theorem dX7_forget_1 : decode cX7_forget 1 = .ok (.getfield 65, 3) := by decide +kernel
theorem dX7_forget_4 : decode cX7_forget 4 = .ok (.getfield 194, 3) := by decide +kernel
theorem dX7_forget_7 : decode cX7_forget 7 = .ok (.istore_n 1, 1) := by decide +kernel
theorem dX7_forget_8 : decode cX7_forget 8 = .ok (.aload_n 0, 1) := by decide +kernel
theorem dX7_forget_9 : decode cX7_forget 9 = .ok (.getfield 65, 3) := by decide +kernel
theorem dX7_forget_12 : decode cX7_forget 12 = .ok (.iconst 0, 1) := by decide +kernel
theorem dX7_forget_13 : decode cX7_forget 13 = .ok (.putfield 194, 3) := by decide +kernel
theorem dX7_forget_16 : decode cX7_forget 16 = .ok (.iload_n 1, 1) := by decide +kernel
theorem dX7_forget_17 : decode cX7_forget 17 = .ok (.ireturn, 1) := by decide +kernel
theorem dX7_which_0 : decode cX7_which 0 = .ok (.iload_n 1, 1) := by decide +kernel
theorem dX7_which_1 : decode cX7_which 1 = .ok (.ifCond .lt 8, 3) := by decide +kernel
theorem dX7_which_4 : decode cX7_which 4 = .ok (.iload_n 1, 1) := by decide +kernel
theorem dX7_which_5 : decode cX7_which 5 = .ok (.iconst 1, 1) := by decide +kernel
theorem dX7_which_6 : decode cX7_which 6 = .ok (.if_icmp .le 5, 3) := by decide +kernel
theorem dX7_which_9 : decode cX7_which 9 = .ok (.iconst (-1), 1) := by decide +kernel
theorem dX7_which_10 : decode cX7_which 10 = .ok (.ireturn, 1) := by decide +kernel
theorem dX7_which_11 : decode cX7_which 11 = .ok (.aload_n 0, 1) := by decide +kernel
theorem dX7_which_12 : decode cX7_which 12 = .ok (.getfield 65, 3) := by decide +kernel
theorem dX7_which_15 : decode cX7_which 15 = .ok (.aload_n 0, 1) := by decide +kernel
theorem dX7_which_16 : decode cX7_which 16 = .ok (.getfield 58, 3) := by decide +kernel
theorem dX7_which_19 : decode cX7_which 19 = .ok (.invokevirtual 198, 3) := by decide +kernel
theorem dX7_which_22 : decode cX7_which 22 = .ok (.iload_n 1, 1) := by decide +kernel
theorem dX7_which_23 : decode cX7_which 23 = .ok (.ifCond .ne 11, 3) := by decide +kernel
theorem dX7_which_26 : decode cX7_which 26 = .ok (.aload_n 0, 1) := by decide +kernel
theorem dX7_which_27 : decode cX7_which 27 = .ok (.getfield 65, 3) := by decide +kernel
theorem dX7_which_30 : decode cX7_which 30 = .ok (.getfield 202, 3) := by decide +kernel
theorem dX7_which_33 : decode cX7_which 33 = .ok (.ireturn, 1) := by decide +kernel
theorem dX7_which_34 : decode cX7_which 34 = .ok (.aload_n 0, 1) := by decide +kernel
theorem dX7_which_35 : decode cX7_which 35 = .ok (.getfield 65, 3) := by decide +kernel
theorem dX7_which_38 : decode cX7_which 38 = .ok (.getfield 202, 3) := by decide +kernel
theorem dX7_which_41 : decode cX7_which 41 = .ok (.ifCond .le 15, 3) := by decide +kernel
theorem dX7_which_44 : decode cX7_which 44 = .ok (.aload_n 0, 1) := by decide +kernel
theorem dX7_which_45 : decode cX7_which 45 = .ok (.getfield 65, 3) := by decide +kernel
theorem dX7_which_48 : decode cX7_which 48 = .ok (.getfield 205, 3) := by decide +kernel
theorem dX7_which_51 : decode cX7_which 51 = .ok (.iconst 0, 1) := by decide +kernel
theorem dX7_which_52 : decode cX7_which 52 = .ok (.iaload, 1) := by decide +kernel
theorem dX7_which_53 : decode cX7_which 53 = .ok (.goto 5, 3) := by decide +kernel
theorem dX7_which_56 : decode cX7_which 56 = .ok (.bipush (-9), 2) := by decide +kernel
theorem dX7_which_58 : decode cX7_which 58 = .ok (.ireturn, 1) := by decide +kernel
theorem dX7_listen_0 : decode cX7_listen 0 = .ok (.aload_n 0, 1) := by decide +kernel
theorem dX7_listen_1 : decode cX7_listen 1 = .ok (.getfield 65, 3) := by decide +kernel
theorem dX7_listen_4 : decode cX7_listen 4 = .ok (.aload_n 0, 1) := by decide +kernel
theorem dX7_listen_5 : decode cX7_listen 5 = .ok (.getfield 58, 3) := by decide +kernel
theorem dX7_listen_8 : decode cX7_listen 8 = .ok (.invokevirtual 198, 3) := by decide +kernel
theorem dX7_listen_11 : decode cX7_listen 11 = .ok (.aload_n 0, 1) := by decide +kernel
theorem dX7_listen_12 : decode cX7_listen 12 = .ok (.getfield 65, 3) := by decide +kernel
theorem dX7_listen_15 : decode cX7_listen 15 = .ok (.getfield 202, 3) := by decide +kernel
theorem dX7_listen_18 : decode cX7_listen 18 = .ok (.iconst 1, 1) := by decide +kernel
theorem dX7_listen_19 : decode cX7_listen 19 = .ok (.if_icmp .gt 6, 3) := by decide +kernel
theorem dX7_listen_22 : decode cX7_listen 22 = .ok (.bipush (-9), 2) := by decide +kernel
theorem dX7_listen_24 : decode cX7_listen 24 = .ok (.ireturn, 1) := by decide +kernel
theorem dX7_listen_25 : decode cX7_listen 25 = .ok (.iconst 0, 1) := by decide +kernel
theorem dX7_listen_26 : decode cX7_listen 26 = .ok (.istore_n 1, 1) := by decide +kernel
theorem dX7_listen_27 : decode cX7_listen 27 = .ok (.aload_n 0, 1) := by decide +kernel
theorem dX7_listen_28 : decode cX7_listen 28 = .ok (.getfield 65, 3) := by decide +kernel
theorem dX7_listen_31 : decode cX7_listen 31 = .ok (.aload_n 0, 1) := by decide +kernel
theorem dX7_listen_32 : decode cX7_listen 32 = .ok (.getfield 58, 3) := by decide +kernel
theorem dX7_listen_35 : decode cX7_listen 35 = .ok (.iconst 0, 1) := by decide +kernel
theorem dX7_listen_36 : decode cX7_listen 36 = .ok (.invokevirtual 208, 3) := by decide +kernel
theorem dX7_listen_39 : decode cX7_listen 39 = .ok (.istore_n 2, 1) := by decide +kernel
theorem dX7_listen_40 : decode cX7_listen 40 = .ok (.iconst 1, 1) := by decide +kernel
theorem dX7_listen_41 : decode cX7_listen 41 = .ok (.istore_n 3, 1) := by decide +kernel
theorem dX7_listen_42 : decode cX7_listen 42 = .ok (.iload_n 3, 1) := by decide +kernel
theorem dX7_listen_43 : decode cX7_listen 43 = .ok (.aload_n 0, 1) := by decide +kernel
theorem dX7_listen_44 : decode cX7_listen 44 = .ok (.getfield 10, 3) := by decide +kernel
theorem dX7_listen_47 : decode cX7_listen 47 = .ok (.getfield 212, 3) := by decide +kernel
theorem dX7_listen_50 : decode cX7_listen 50 = .ok (.if_icmp .ge 34, 3) := by decide +kernel
theorem dX7_listen_53 : decode cX7_listen 53 = .ok (.aload_n 0, 1) := by decide +kernel
theorem dX7_listen_54 : decode cX7_listen 54 = .ok (.getfield 65, 3) := by decide +kernel
theorem dX7_listen_57 : decode cX7_listen 57 = .ok (.aload_n 0, 1) := by decide +kernel
theorem dX7_listen_58 : decode cX7_listen 58 = .ok (.getfield 58, 3) := by decide +kernel
theorem dX7_listen_61 : decode cX7_listen 61 = .ok (.iload_n 3, 1) := by decide +kernel
theorem dX7_listen_62 : decode cX7_listen 62 = .ok (.invokevirtual 208, 3) := by decide +kernel
theorem dX7_listen_65 : decode cX7_listen 65 = .ok (.istore 4, 2) := by decide +kernel
theorem dX7_listen_67 : decode cX7_listen 67 = .ok (.iload 4, 2) := by decide +kernel
theorem dX7_listen_69 : decode cX7_listen 69 = .ok (.iload_n 2, 1) := by decide +kernel
theorem dX7_listen_70 : decode cX7_listen 70 = .ok (.if_icmp .ge 8, 3) := by decide +kernel
theorem dX7_listen_73 : decode cX7_listen 73 = .ok (.iload 4, 2) := by decide +kernel
theorem dX7_listen_75 : decode cX7_listen 75 = .ok (.istore_n 2, 1) := by decide +kernel
theorem dX7_listen_76 : decode cX7_listen 76 = .ok (.iload_n 3, 1) := by decide +kernel
theorem dX7_listen_77 : decode cX7_listen 77 = .ok (.istore_n 1, 1) := by decide +kernel
theorem dX7_listen_78 : decode cX7_listen 78 = .ok (.iinc 3 1, 3) := by decide +kernel
theorem dX7_listen_81 : decode cX7_listen 81 = .ok (.goto (-39), 3) := by decide +kernel
theorem dX7_listen_84 : decode cX7_listen 84 = .ok (.iload_n 1, 1) := by decide +kernel
theorem dX7_listen_85 : decode cX7_listen 85 = .ok (.ireturn, 1) := by decide +kernel
theorem dX7_keep_0 : decode cX7_keep 0 = .ok (.iload_n 1, 1) := by decide +kernel
theorem dX7_keep_1 : decode cX7_keep 1 = .ok (.ifCond .lt 8, 3) := by decide +kernel
theorem dX7_keep_4 : decode cX7_keep 4 = .ok (.iload_n 1, 1) := by decide +kernel
theorem dX7_keep_5 : decode cX7_keep 5 = .ok (.iconst 2, 1) := by decide +kernel
theorem dX7_keep_6 : decode cX7_keep 6 = .ok (.if_icmp .lt 5, 3) := by decide +kernel
theorem dX7_keep_9 : decode cX7_keep 9 = .ok (.iconst (-1), 1) := by decide +kernel
theorem dX7_keep_10 : decode cX7_keep 10 = .ok (.ireturn, 1) := by decide +kernel
theorem dX7_keep_11 : decode cX7_keep 11 = .ok (.aload_n 0, 1) := by decide +kernel
theorem dX7_keep_12 : decode cX7_keep 12 = .ok (.getfield 33, 3) := by decide +kernel
theorem dX7_keep_15 : decode cX7_keep 15 = .ok (.iload_n 1, 1) := by decide +kernel
theorem dX7_keep_16 : decode cX7_keep 16 = .ok (.aaload, 1) := by decide +kernel
theorem dX7_keep_17 : decode cX7_keep 17 = .ok (.aload_n 0, 1) := by decide +kernel
theorem dX7_keep_18 : decode cX7_keep 18 = .ok (.getfield 10, 3) := by decide +kernel
theorem dX7_keep_21 : decode cX7_keep 21 = .ok (.invokevirtual 94, 3) := by decide +kernel
theorem dX7_keep_24 : decode cX7_keep 24 = .ok (.aload_n 0, 1) := by decide +kernel
theorem dX7_keep_25 : decode cX7_keep 25 = .ok (.getfield 37, 3) := by decide +kernel
theorem dX7_keep_28 : decode cX7_keep 28 = .ok (.iload_n 1, 1) := by decide +kernel
theorem dX7_keep_29 : decode cX7_keep 29 = .ok (.iconst 1, 1) := by decide +kernel
theorem dX7_keep_30 : decode cX7_keep 30 = .ok (.bastore, 1) := by decide +kernel
theorem dX7_keep_31 : decode cX7_keep 31 = .ok (.aload_n 0, 1) := by decide +kernel
theorem dX7_keep_32 : decode cX7_keep 32 = .ok (.getfield 10, 3) := by decide +kernel
theorem dX7_keep_35 : decode cX7_keep 35 = .ok (.getfield 212, 3) := by decide +kernel
theorem dX7_keep_38 : decode cX7_keep 38 = .ok (.ireturn, 1) := by decide +kernel
theorem dX7_back_0 : decode cX7_back 0 = .ok (.iload_n 1, 1) := by decide +kernel
theorem dX7_back_1 : decode cX7_back 1 = .ok (.ifCond .lt 8, 3) := by decide +kernel
theorem dX7_back_4 : decode cX7_back 4 = .ok (.iload_n 1, 1) := by decide +kernel
theorem dX7_back_5 : decode cX7_back 5 = .ok (.iconst 2, 1) := by decide +kernel
theorem dX7_back_6 : decode cX7_back 6 = .ok (.if_icmp .lt 5, 3) := by decide +kernel
theorem dX7_back_9 : decode cX7_back 9 = .ok (.iconst (-1), 1) := by decide +kernel
theorem dX7_back_10 : decode cX7_back 10 = .ok (.ireturn, 1) := by decide +kernel
theorem dX7_back_11 : decode cX7_back 11 = .ok (.aload_n 0, 1) := by decide +kernel
theorem dX7_back_12 : decode cX7_back 12 = .ok (.getfield 37, 3) := by decide +kernel
theorem dX7_back_15 : decode cX7_back 15 = .ok (.iload_n 1, 1) := by decide +kernel
theorem dX7_back_16 : decode cX7_back 16 = .ok (.baload, 1) := by decide +kernel
theorem dX7_back_17 : decode cX7_back 17 = .ok (.ifCond .ne 6, 3) := by decide +kernel
theorem dX7_back_20 : decode cX7_back 20 = .ok (.bipush (-2), 2) := by decide +kernel
theorem dX7_back_22 : decode cX7_back 22 = .ok (.ireturn, 1) := by decide +kernel
theorem dX7_back_23 : decode cX7_back 23 = .ok (.aload_n 0, 1) := by decide +kernel
theorem dX7_back_24 : decode cX7_back 24 = .ok (.getfield 10, 3) := by decide +kernel
theorem dX7_back_27 : decode cX7_back 27 = .ok (.aload_n 0, 1) := by decide +kernel
theorem dX7_back_28 : decode cX7_back 28 = .ok (.getfield 33, 3) := by decide +kernel
theorem dX7_back_31 : decode cX7_back 31 = .ok (.iload_n 1, 1) := by decide +kernel
theorem dX7_back_32 : decode cX7_back 32 = .ok (.aaload, 1) := by decide +kernel
theorem dX7_back_33 : decode cX7_back 33 = .ok (.invokevirtual 94, 3) := by decide +kernel
theorem dX7_back_36 : decode cX7_back 36 = .ok (.aload_n 0, 1) := by decide +kernel
theorem dX7_back_37 : decode cX7_back 37 = .ok (.getfield 29, 3) := by decide +kernel
theorem dX7_back_40 : decode cX7_back 40 = .ok (.iconst 0, 1) := by decide +kernel
theorem dX7_back_41 : decode cX7_back 41 = .ok (.putfield 116, 3) := by decide +kernel
theorem dX7_back_44 : decode cX7_back 44 = .ok (.aload_n 0, 1) := by decide +kernel
theorem dX7_back_45 : decode cX7_back 45 = .ok (.invokevirtual 76, 3) := by decide +kernel
theorem dX7_back_48 : decode cX7_back 48 = .ok (.aload_n 0, 1) := by decide +kernel
theorem dX7_back_49 : decode cX7_back 49 = .ok (.getfield 10, 3) := by decide +kernel
theorem dX7_back_52 : decode cX7_back 52 = .ok (.getfield 212, 3) := by decide +kernel
theorem dX7_back_55 : decode cX7_back 55 = .ok (.ireturn, 1) := by decide +kernel
theorem dX7_count_0 : decode cX7_count 0 = .ok (.iload_n 1, 1) := by decide +kernel
theorem dX7_count_1 : decode cX7_count 1 = .ok (.tableswitch 150 0 10 #[59, 67, 75, 85, 95, 105, 113, 118, 126, 134, 142], 59) := by decide +kernel
theorem dX7_count_60 : decode cX7_count 60 = .ok (.aload_n 0, 1) := by decide +kernel
theorem dX7_count_61 : decode cX7_count 61 = .ok (.getfield 10, 3) := by decide +kernel
theorem dX7_count_64 : decode cX7_count 64 = .ok (.getfield 212, 3) := by decide +kernel
theorem dX7_count_67 : decode cX7_count 67 = .ok (.ireturn, 1) := by decide +kernel
theorem dX7_count_68 : decode cX7_count 68 = .ok (.aload_n 0, 1) := by decide +kernel
theorem dX7_count_69 : decode cX7_count 69 = .ok (.getfield 10, 3) := by decide +kernel
theorem dX7_count_72 : decode cX7_count 72 = .ok (.getfield 215, 3) := by decide +kernel
theorem dX7_count_75 : decode cX7_count 75 = .ok (.ireturn, 1) := by decide +kernel
theorem dX7_count_76 : decode cX7_count 76 = .ok (.aload_n 0, 1) := by decide +kernel
theorem dX7_count_77 : decode cX7_count 77 = .ok (.getfield 10, 3) := by decide +kernel
theorem dX7_count_80 : decode cX7_count 80 = .ok (.getfield 112, 3) := by decide +kernel
theorem dX7_count_83 : decode cX7_count 83 = .ok (.iconst 0, 1) := by decide +kernel
theorem dX7_count_84 : decode cX7_count 84 = .ok (.iaload, 1) := by decide +kernel
theorem dX7_count_85 : decode cX7_count 85 = .ok (.ireturn, 1) := by decide +kernel
theorem dX7_count_86 : decode cX7_count 86 = .ok (.aload_n 0, 1) := by decide +kernel
theorem dX7_count_87 : decode cX7_count 87 = .ok (.getfield 10, 3) := by decide +kernel
theorem dX7_count_90 : decode cX7_count 90 = .ok (.getfield 112, 3) := by decide +kernel
theorem dX7_count_93 : decode cX7_count 93 = .ok (.iconst 1, 1) := by decide +kernel
theorem dX7_count_94 : decode cX7_count 94 = .ok (.iaload, 1) := by decide +kernel
theorem dX7_count_95 : decode cX7_count 95 = .ok (.ireturn, 1) := by decide +kernel
theorem dX7_count_96 : decode cX7_count 96 = .ok (.aload_n 0, 1) := by decide +kernel
theorem dX7_count_97 : decode cX7_count 97 = .ok (.getfield 10, 3) := by decide +kernel
theorem dX7_count_100 : decode cX7_count 100 = .ok (.getfield 112, 3) := by decide +kernel
theorem dX7_count_103 : decode cX7_count 103 = .ok (.iconst 2, 1) := by decide +kernel
theorem dX7_count_104 : decode cX7_count 104 = .ok (.iaload, 1) := by decide +kernel
theorem dX7_count_105 : decode cX7_count 105 = .ok (.ireturn, 1) := by decide +kernel
theorem dX7_count_106 : decode cX7_count 106 = .ok (.aload_n 0, 1) := by decide +kernel
theorem dX7_count_107 : decode cX7_count 107 = .ok (.getfield 58, 3) := by decide +kernel
theorem dX7_count_110 : decode cX7_count 110 = .ok (.getfield 156, 3) := by decide +kernel
theorem dX7_count_113 : decode cX7_count 113 = .ok (.ireturn, 1) := by decide +kernel
theorem dX7_count_114 : decode cX7_count 114 = .ok (.aload_n 0, 1) := by decide +kernel
theorem dX7_count_115 : decode cX7_count 115 = .ok (.invokevirtual 217, 3) := by decide +kernel
theorem dX7_count_118 : decode cX7_count 118 = .ok (.ireturn, 1) := by decide +kernel
theorem dX7_count_119 : decode cX7_count 119 = .ok (.aload_n 0, 1) := by decide +kernel
theorem dX7_count_120 : decode cX7_count 120 = .ok (.getfield 58, 3) := by decide +kernel
theorem dX7_count_123 : decode cX7_count 123 = .ok (.invokevirtual 221, 3) := by decide +kernel
theorem dX7_count_126 : decode cX7_count 126 = .ok (.ireturn, 1) := by decide +kernel
theorem dX7_count_127 : decode cX7_count 127 = .ok (.aload_n 0, 1) := by decide +kernel
theorem dX7_count_128 : decode cX7_count 128 = .ok (.getfield 65, 3) := by decide +kernel
theorem dX7_count_131 : decode cX7_count 131 = .ok (.getfield 194, 3) := by decide +kernel
theorem dX7_count_134 : decode cX7_count 134 = .ok (.ireturn, 1) := by decide +kernel
theorem dX7_count_135 : decode cX7_count 135 = .ok (.aload_n 0, 1) := by decide +kernel
theorem dX7_count_136 : decode cX7_count 136 = .ok (.getfield 22, 3) := by decide +kernel
theorem dX7_count_139 : decode cX7_count 139 = .ok (.getfield 79, 3) := by decide +kernel
theorem dX7_count_142 : decode cX7_count 142 = .ok (.ireturn, 1) := by decide +kernel
theorem dX7_count_143 : decode cX7_count 143 = .ok (.aload_n 0, 1) := by decide +kernel
theorem dX7_count_144 : decode cX7_count 144 = .ok (.getfield 29, 3) := by decide +kernel
theorem dX7_count_147 : decode cX7_count 147 = .ok (.getfield 116, 3) := by decide +kernel
theorem dX7_count_150 : decode cX7_count 150 = .ok (.ireturn, 1) := by decide +kernel
theorem dX7_count_151 : decode cX7_count 151 = .ok (.iconst (-1), 1) := by decide +kernel
theorem dX7_count_152 : decode cX7_count 152 = .ok (.ireturn, 1) := by decide +kernel
theorem dX7_followAnew_0 : decode cX7_followAnew 0 = .ok (.aload_n 0, 1) := by decide +kernel
theorem dX7_followAnew_1 : decode cX7_followAnew 1 = .ok (.getfield 44, 3) := by decide +kernel
theorem dX7_followAnew_4 : decode cX7_followAnew 4 = .ok (.aload_n 0, 1) := by decide +kernel
theorem dX7_followAnew_5 : decode cX7_followAnew 5 = .ok (.getfield 10, 3) := by decide +kernel
theorem dX7_followAnew_8 : decode cX7_followAnew 8 = .ok (.invokevirtual 224, 3) := by decide +kernel
theorem dX7_followAnew_11 : decode cX7_followAnew 11 = .ok (.aload_n 0, 1) := by decide +kernel
theorem dX7_followAnew_12 : decode cX7_followAnew 12 = .ok (.getfield 58, 3) := by decide +kernel
theorem dX7_followAnew_15 : decode cX7_followAnew 15 = .ok (.aload_n 0, 1) := by decide +kernel
theorem dX7_followAnew_16 : decode cX7_followAnew 16 = .ok (.getfield 44, 3) := by decide +kernel
theorem dX7_followAnew_19 : decode cX7_followAnew 19 = .ok (.aload_n 0, 1) := by decide +kernel
theorem dX7_followAnew_20 : decode cX7_followAnew 20 = .ok (.getfield 51, 3) := by decide +kernel
theorem dX7_followAnew_23 : decode cX7_followAnew 23 = .ok (.aload_n 0, 1) := by decide +kernel
theorem dX7_followAnew_24 : decode cX7_followAnew 24 = .ok (.getfield 10, 3) := by decide +kernel
theorem dX7_followAnew_27 : decode cX7_followAnew 27 = .ok (.getfield 112, 3) := by decide +kernel
theorem dX7_followAnew_30 : decode cX7_followAnew 30 = .ok (.iconst 1, 1) := by decide +kernel
theorem dX7_followAnew_31 : decode cX7_followAnew 31 = .ok (.iaload, 1) := by decide +kernel
theorem dX7_followAnew_32 : decode cX7_followAnew 32 = .ok (.invokevirtual 227, 3) := by decide +kernel
theorem dX7_followAnew_35 : decode cX7_followAnew 35 = .ok (.aload_n 0, 1) := by decide +kernel
theorem dX7_followAnew_36 : decode cX7_followAnew 36 = .ok (.bipush (-9), 2) := by decide +kernel
theorem dX7_followAnew_38 : decode cX7_followAnew 38 = .ok (.putfield 69, 3) := by decide +kernel
theorem dX7_followAnew_41 : decode cX7_followAnew 41 = .ok (.return_, 1) := by decide +kernel
theorem dX7_isSetting_0 : decode cX7_isSetting 0 = .ok (.iload_n 0, 1) := by decide +kernel
theorem dX7_isSetting_1 : decode cX7_isSetting 1 = .ok (.ifCond .lt 30, 3) := by decide +kernel
theorem dX7_isSetting_4 : decode cX7_isSetting 4 = .ok (.iload_n 0, 1) := by decide +kernel
theorem dX7_isSetting_5 : decode cX7_isSetting 5 = .ok (.iconst 3, 1) := by decide +kernel
theorem dX7_isSetting_6 : decode cX7_isSetting 6 = .ok (.if_icmp .ge 25, 3) := by decide +kernel
theorem dX7_isSetting_9 : decode cX7_isSetting 9 = .ok (.iload_n 1, 1) := by decide +kernel
theorem dX7_isSetting_10 : decode cX7_isSetting 10 = .ok (.getstatic 185, 3) := by decide +kernel
theorem dX7_isSetting_13 : decode cX7_isSetting 13 = .ok (.iload_n 0, 1) := by decide +kernel
theorem dX7_isSetting_14 : decode cX7_isSetting 14 = .ok (.iaload, 1) := by decide +kernel
theorem dX7_isSetting_15 : decode cX7_isSetting 15 = .ok (.if_icmp .lt 16, 3) := by decide +kernel
theorem dX7_isSetting_18 : decode cX7_isSetting 18 = .ok (.iload_n 1, 1) := by decide +kernel
theorem dX7_isSetting_19 : decode cX7_isSetting 19 = .ok (.getstatic 188, 3) := by decide +kernel
theorem dX7_isSetting_22 : decode cX7_isSetting 22 = .ok (.iload_n 0, 1) := by decide +kernel
theorem dX7_isSetting_23 : decode cX7_isSetting 23 = .ok (.iaload, 1) := by decide +kernel
theorem dX7_isSetting_24 : decode cX7_isSetting 24 = .ok (.if_icmp .gt 7, 3) := by decide +kernel
theorem dX7_isSetting_27 : decode cX7_isSetting 27 = .ok (.iconst 1, 1) := by decide +kernel
theorem dX7_isSetting_28 : decode cX7_isSetting 28 = .ok (.goto 4, 3) := by decide +kernel
theorem dX7_isSetting_31 : decode cX7_isSetting 31 = .ok (.iconst 0, 1) := by decide +kernel
theorem dX7_isSetting_32 : decode cX7_isSetting 32 = .ok (.ireturn, 1) := by decide +kernel
theorem dX7_isKept_0 : decode cX7_isKept 0 = .ok (.iload_n 1, 1) := by decide +kernel
theorem dX7_isKept_1 : decode cX7_isKept 1 = .ok (.ifCond .lt 39, 3) := by decide +kernel
theorem dX7_isKept_4 : decode cX7_isKept 4 = .ok (.iload_n 1, 1) := by decide +kernel
theorem dX7_isKept_5 : decode cX7_isKept 5 = .ok (.aload_n 0, 1) := by decide +kernel
theorem dX7_isKept_6 : decode cX7_isKept 6 = .ok (.getfield 58, 3) := by decide +kernel
theorem dX7_isKept_9 : decode cX7_isKept 9 = .ok (.getfield 156, 3) := by decide +kernel
theorem dX7_isKept_12 : decode cX7_isKept 12 = .ok (.if_icmp .ge 28, 3) := by decide +kernel
theorem dX7_isKept_15 : decode cX7_isKept 15 = .ok (.aload_n 0, 1) := by decide +kernel
theorem dX7_isKept_16 : decode cX7_isKept 16 = .ok (.getfield 58, 3) := by decide +kernel
theorem dX7_isKept_19 : decode cX7_isKept 19 = .ok (.getfield 161, 3) := by decide +kernel
theorem dX7_isKept_22 : decode cX7_isKept 22 = .ok (.iload_n 1, 1) := by decide +kernel
theorem dX7_isKept_23 : decode cX7_isKept 23 = .ok (.iaload, 1) := by decide +kernel
theorem dX7_isKept_24 : decode cX7_isKept 24 = .ok (.aload_n 0, 1) := by decide +kernel
theorem dX7_isKept_25 : decode cX7_isKept 25 = .ok (.getfield 10, 3) := by decide +kernel
theorem dX7_isKept_28 : decode cX7_isKept 28 = .ok (.getfield 112, 3) := by decide +kernel
theorem dX7_isKept_31 : decode cX7_isKept 31 = .ok (.iconst 2, 1) := by decide +kernel
theorem dX7_isKept_32 : decode cX7_isKept 32 = .ok (.iaload, 1) := by decide +kernel
theorem dX7_isKept_33 : decode cX7_isKept 33 = .ok (.if_icmp .lt 7, 3) := by decide +kernel
theorem dX7_isKept_36 : decode cX7_isKept 36 = .ok (.iconst 1, 1) := by decide +kernel
theorem dX7_isKept_37 : decode cX7_isKept 37 = .ok (.goto 4, 3) := by decide +kernel
theorem dX7_isKept_40 : decode cX7_isKept 40 = .ok (.iconst 0, 1) := by decide +kernel
theorem dX7_isKept_41 : decode cX7_isKept 41 = .ok (.ireturn, 1) := by decide +kernel
theorem dX7_keptTracks_0 : decode cX7_keptTracks 0 = .ok (.iconst 0, 1) := by decide +kernel
theorem dX7_keptTracks_1 : decode cX7_keptTracks 1 = .ok (.istore_n 1, 1) := by decide +kernel
theorem dX7_keptTracks_2 : decode cX7_keptTracks 2 = .ok (.iconst 0, 1) := by decide +kernel
theorem dX7_keptTracks_3 : decode cX7_keptTracks 3 = .ok (.istore_n 2, 1) := by decide +kernel
theorem dX7_keptTracks_4 : decode cX7_keptTracks 4 = .ok (.iload_n 2, 1) := by decide +kernel
theorem dX7_keptTracks_5 : decode cX7_keptTracks 5 = .ok (.aload_n 0, 1) := by decide +kernel
theorem dX7_keptTracks_6 : decode cX7_keptTracks 6 = .ok (.getfield 58, 3) := by decide +kernel
theorem dX7_keptTracks_9 : decode cX7_keptTracks 9 = .ok (.getfield 156, 3) := by decide +kernel
theorem dX7_keptTracks_12 : decode cX7_keptTracks 12 = .ok (.if_icmp .ge 20, 3) := by decide +kernel
theorem dX7_keptTracks_15 : decode cX7_keptTracks 15 = .ok (.aload_n 0, 1) := by decide +kernel
theorem dX7_keptTracks_16 : decode cX7_keptTracks 16 = .ok (.iload_n 2, 1) := by decide +kernel
theorem dX7_keptTracks_17 : decode cX7_keptTracks 17 = .ok (.invokevirtual 164, 3) := by decide +kernel
theorem dX7_keptTracks_20 : decode cX7_keptTracks 20 = .ok (.ifCond .eq 6, 3) := by decide +kernel
theorem dX7_keptTracks_23 : decode cX7_keptTracks 23 = .ok (.iinc 1 1, 3) := by decide +kernel
theorem dX7_keptTracks_26 : decode cX7_keptTracks 26 = .ok (.iinc 2 1, 3) := by decide +kernel
theorem dX7_keptTracks_29 : decode cX7_keptTracks 29 = .ok (.goto (-25), 3) := by decide +kernel
theorem dX7_keptTracks_32 : decode cX7_keptTracks 32 = .ok (.iload_n 1, 1) := by decide +kernel
theorem dX7_keptTracks_33 : decode cX7_keptTracks 33 = .ok (.ireturn, 1) := by decide +kernel
theorem dX7_loudTogether_0 : decode cX7_loudTogether 0 = .ok (.iconst 0, 1) := by decide +kernel
theorem dX7_loudTogether_1 : decode cX7_loudTogether 1 = .ok (.istore_n 3, 1) := by decide +kernel
theorem dX7_loudTogether_2 : decode cX7_loudTogether 2 = .ok (.iconst 0, 1) := by decide +kernel
theorem dX7_loudTogether_3 : decode cX7_loudTogether 3 = .ok (.istore 4, 2) := by decide +kernel
theorem dX7_loudTogether_5 : decode cX7_loudTogether 5 = .ok (.iload 4, 2) := by decide +kernel
theorem dX7_loudTogether_7 : decode cX7_loudTogether 7 = .ok (.aload_n 0, 1) := by decide +kernel
theorem dX7_loudTogether_8 : decode cX7_loudTogether 8 = .ok (.getfield 44, 3) := by decide +kernel
theorem dX7_loudTogether_11 : decode cX7_loudTogether 11 = .ok (.getfield 127, 3) := by decide +kernel
theorem dX7_loudTogether_14 : decode cX7_loudTogether 14 = .ok (.iload_n 1, 1) := by decide +kernel
theorem dX7_loudTogether_15 : decode cX7_loudTogether 15 = .ok (.iaload, 1) := by decide +kernel
theorem dX7_loudTogether_16 : decode cX7_loudTogether 16 = .ok (.if_icmp .ge 49, 3) := by decide +kernel
theorem dX7_loudTogether_19 : decode cX7_loudTogether 19 = .ok (.iload_n 1, 1) := by decide +kernel
theorem dX7_loudTogether_20 : decode cX7_loudTogether 20 = .ok (.bipush 6, 2) := by decide +kernel
theorem dX7_loudTogether_22 : decode cX7_loudTogether 22 = .ok (.imul, 1) := by decide +kernel
theorem dX7_loudTogether_23 : decode cX7_loudTogether 23 = .ok (.iload 4, 2) := by decide +kernel
theorem dX7_loudTogether_25 : decode cX7_loudTogether 25 = .ok (.iadd, 1) := by decide +kernel
theorem dX7_loudTogether_26 : decode cX7_loudTogether 26 = .ok (.istore 5, 2) := by decide +kernel
theorem dX7_loudTogether_28 : decode cX7_loudTogether 28 = .ok (.aload_n 0, 1) := by decide +kernel
theorem dX7_loudTogether_29 : decode cX7_loudTogether 29 = .ok (.aload_n 0, 1) := by decide +kernel
theorem dX7_loudTogether_30 : decode cX7_loudTogether 30 = .ok (.getfield 58, 3) := by decide +kernel
theorem dX7_loudTogether_33 : decode cX7_loudTogether 33 = .ok (.getfield 139, 3) := by decide +kernel
theorem dX7_loudTogether_36 : decode cX7_loudTogether 36 = .ok (.iload 5, 2) := by decide +kernel
theorem dX7_loudTogether_38 : decode cX7_loudTogether 38 = .ok (.iaload, 1) := by decide +kernel
theorem dX7_loudTogether_39 : decode cX7_loudTogether 39 = .ok (.invokevirtual 164, 3) := by decide +kernel
theorem dX7_loudTogether_42 : decode cX7_loudTogether 42 = .ok (.iload_n 2, 1) := by decide +kernel
theorem dX7_loudTogether_43 : decode cX7_loudTogether 43 = .ok (.if_icmp .ne 16, 3) := by decide +kernel
theorem dX7_loudTogether_46 : decode cX7_loudTogether 46 = .ok (.iload_n 3, 1) := by decide +kernel
theorem dX7_loudTogether_47 : decode cX7_loudTogether 47 = .ok (.aload_n 0, 1) := by decide +kernel
theorem dX7_loudTogether_48 : decode cX7_loudTogether 48 = .ok (.getfield 44, 3) := by decide +kernel
theorem dX7_loudTogether_51 : decode cX7_loudTogether 51 = .ok (.getfield 136, 3) := by decide +kernel
theorem dX7_loudTogether_54 : decode cX7_loudTogether 54 = .ok (.iload 5, 2) := by decide +kernel
theorem dX7_loudTogether_56 : decode cX7_loudTogether 56 = .ok (.iaload, 1) := by decide +kernel
theorem dX7_loudTogether_57 : decode cX7_loudTogether 57 = .ok (.iadd, 1) := by decide +kernel
theorem dX7_loudTogether_58 : decode cX7_loudTogether 58 = .ok (.istore_n 3, 1) := by decide +kernel
theorem dX7_loudTogether_59 : decode cX7_loudTogether 59 = .ok (.iinc 4 1, 3) := by decide +kernel
theorem dX7_loudTogether_62 : decode cX7_loudTogether 62 = .ok (.goto (-57), 3) := by decide +kernel
theorem dX7_loudTogether_65 : decode cX7_loudTogether 65 = .ok (.iload_n 3, 1) := by decide +kernel
theorem dX7_loudTogether_66 : decode cX7_loudTogether 66 = .ok (.ireturn, 1) := by decide +kernel
theorem dX7_tracksByReach_0 : decode cX7_tracksByReach 0 = .ok (.iconst 0, 1) := by decide +kernel
theorem dX7_tracksByReach_1 : decode cX7_tracksByReach 1 = .ok (.istore_n 2, 1) := by decide +kernel
theorem dX7_tracksByReach_2 : decode cX7_tracksByReach 2 = .ok (.iconst 0, 1) := by decide +kernel
theorem dX7_tracksByReach_3 : decode cX7_tracksByReach 3 = .ok (.istore_n 3, 1) := by decide +kernel
theorem dX7_tracksByReach_4 : decode cX7_tracksByReach 4 = .ok (.iload_n 3, 1) := by decide +kernel
theorem dX7_tracksByReach_5 : decode cX7_tracksByReach 5 = .ok (.bipush 8, 2) := by decide +kernel
theorem dX7_tracksByReach_7 : decode cX7_tracksByReach 7 = .ok (.if_icmp .ge 35, 3) := by decide +kernel
theorem dX7_tracksByReach_10 : decode cX7_tracksByReach 10 = .ok (.iload_n 2, 1) := by decide +kernel
theorem dX7_tracksByReach_11 : decode cX7_tracksByReach 11 = .ok (.aload_n 0, 1) := by decide +kernel
theorem dX7_tracksByReach_12 : decode cX7_tracksByReach 12 = .ok (.getfield 44, 3) := by decide +kernel
theorem dX7_tracksByReach_15 : decode cX7_tracksByReach 15 = .ok (.getfield 127, 3) := by decide +kernel
theorem dX7_tracksByReach_18 : decode cX7_tracksByReach 18 = .ok (.iload_n 3, 1) := by decide +kernel
theorem dX7_tracksByReach_19 : decode cX7_tracksByReach 19 = .ok (.iaload, 1) := by decide +kernel
theorem dX7_tracksByReach_20 : decode cX7_tracksByReach 20 = .ok (.aload_n 0, 1) := by decide +kernel
theorem dX7_tracksByReach_21 : decode cX7_tracksByReach 21 = .ok (.getfield 51, 3) := by decide +kernel
theorem dX7_tracksByReach_24 : decode cX7_tracksByReach 24 = .ok (.aload_n 0, 1) := by decide +kernel
theorem dX7_tracksByReach_25 : decode cX7_tracksByReach 25 = .ok (.getfield 44, 3) := by decide +kernel
theorem dX7_tracksByReach_28 : decode cX7_tracksByReach 28 = .ok (.iload_n 3, 1) := by decide +kernel
theorem dX7_tracksByReach_29 : decode cX7_tracksByReach 29 = .ok (.iload_n 1, 1) := by decide +kernel
theorem dX7_tracksByReach_30 : decode cX7_tracksByReach 30 = .ok (.invokevirtual 231, 3) := by decide +kernel
theorem dX7_tracksByReach_33 : decode cX7_tracksByReach 33 = .ok (.isub, 1) := by decide +kernel
theorem dX7_tracksByReach_34 : decode cX7_tracksByReach 34 = .ok (.iadd, 1) := by decide +kernel
theorem dX7_tracksByReach_35 : decode cX7_tracksByReach 35 = .ok (.istore_n 2, 1) := by decide +kernel
theorem dX7_tracksByReach_36 : decode cX7_tracksByReach 36 = .ok (.iinc 3 1, 3) := by decide +kernel
theorem dX7_tracksByReach_39 : decode cX7_tracksByReach 39 = .ok (.goto (-35), 3) := by decide +kernel
theorem dX7_tracksByReach_42 : decode cX7_tracksByReach 42 = .ok (.iload_n 2, 1) := by decide +kernel
theorem dX7_tracksByReach_43 : decode cX7_tracksByReach 43 = .ok (.ireturn, 1) := by decide +kernel
theorem dX8_init_0 : decode cX8_init 0 = .ok (.aload_n 0, 1) := by decide +kernel
theorem dX8_init_1 : decode cX8_init 1 = .ok (.invokespecial 1, 3) := by decide +kernel
theorem dX8_init_4 : decode cX8_init 4 = .ok (.aload_n 0, 1) := by decide +kernel
theorem dX8_init_5 : decode cX8_init 5 = .ok (.bipush 101, 2) := by decide +kernel
theorem dX8_init_7 : decode cX8_init 7 = .ok (.newarray .int, 2) := by decide +kernel
theorem dX8_init_9 : decode cX8_init 9 = .ok (.putfield 7, 3) := by decide +kernel
theorem dX8_init_12 : decode cX8_init 12 = .ok (.aload_n 0, 1) := by decide +kernel
theorem dX8_init_13 : decode cX8_init 13 = .ok (.bipush 101, 2) := by decide +kernel
theorem dX8_init_15 : decode cX8_init 15 = .ok (.newarray .int, 2) := by decide +kernel
theorem dX8_init_17 : decode cX8_init 17 = .ok (.putfield 13, 3) := by decide +kernel
theorem dX8_init_20 : decode cX8_init 20 = .ok (.aload_n 0, 1) := by decide +kernel
theorem dX8_init_21 : decode cX8_init 21 = .ok (.sipush 606, 3) := by decide +kernel
theorem dX8_init_24 : decode cX8_init 24 = .ok (.newarray .int, 2) := by decide +kernel
theorem dX8_init_26 : decode cX8_init 26 = .ok (.putfield 16, 3) := by decide +kernel
theorem dX8_init_29 : decode cX8_init 29 = .ok (.aload_n 0, 1) := by decide +kernel
theorem dX8_init_30 : decode cX8_init 30 = .ok (.sipush 202, 3) := by decide +kernel
theorem dX8_init_33 : decode cX8_init 33 = .ok (.newarray .int, 2) := by decide +kernel
theorem dX8_init_35 : decode cX8_init 35 = .ok (.putfield 19, 3) := by decide +kernel
theorem dX8_init_38 : decode cX8_init 38 = .ok (.aload_n 0, 1) := by decide +kernel
theorem dX8_init_39 : decode cX8_init 39 = .ok (.iconst 2, 1) := by decide +kernel
theorem dX8_init_40 : decode cX8_init 40 = .ok (.newarray .boolean, 2) := by decide +kernel
theorem dX8_init_42 : decode cX8_init 42 = .ok (.putfield 22, 3) := by decide +kernel
theorem dX8_init_45 : decode cX8_init 45 = .ok (.aload_n 0, 1) := by decide +kernel
theorem dX8_init_46 : decode cX8_init 46 = .ok (.bipush 12, 2) := by decide +kernel
theorem dX8_init_48 : decode cX8_init 48 = .ok (.newarray .int, 2) := by decide +kernel
theorem dX8_init_50 : decode cX8_init 50 = .ok (.putfield 26, 3) := by decide +kernel
theorem dX8_init_53 : decode cX8_init 53 = .ok (.aload_n 0, 1) := by decide +kernel
theorem dX8_init_54 : decode cX8_init 54 = .ok (.sipush 140, 3) := by decide +kernel
theorem dX8_init_57 : decode cX8_init 57 = .ok (.newarray .byte, 2) := by decide +kernel
theorem dX8_init_59 : decode cX8_init 59 = .ok (.putfield 29, 3) := by decide +kernel
theorem dX8_init_62 : decode cX8_init 62 = .ok (.aload_n 0, 1) := by decide +kernel
theorem dX8_init_63 : decode cX8_init 63 = .ok (.bipush 8, 2) := by decide +kernel
theorem dX8_init_65 : decode cX8_init 65 = .ok (.newarray .int, 2) := by decide +kernel
theorem dX8_init_67 : decode cX8_init 67 = .ok (.putfield 33, 3) := by decide +kernel
theorem dX8_init_70 : decode cX8_init 70 = .ok (.aload_n 0, 1) := by decide +kernel
theorem dX8_init_71 : decode cX8_init 71 = .ok (.bipush 48, 2) := by decide +kernel
theorem dX8_init_73 : decode cX8_init 73 = .ok (.newarray .int, 2) := by decide +kernel
theorem dX8_init_75 : decode cX8_init 75 = .ok (.putfield 36, 3) := by decide +kernel
theorem dX8_init_78 : decode cX8_init 78 = .ok (.aload_n 0, 1) := by decide +kernel
theorem dX8_init_79 : decode cX8_init 79 = .ok (.bipush 48, 2) := by decide +kernel
theorem dX8_init_81 : decode cX8_init 81 = .ok (.newarray .int, 2) := by decide +kernel
theorem dX8_init_83 : decode cX8_init 83 = .ok (.putfield 39, 3) := by decide +kernel
theorem dX8_init_86 : decode cX8_init 86 = .ok (.aload_n 0, 1) := by decide +kernel
theorem dX8_init_87 : decode cX8_init 87 = .ok (.bipush 48, 2) := by decide +kernel
theorem dX8_init_89 : decode cX8_init 89 = .ok (.newarray .int, 2) := by decide +kernel
theorem dX8_init_91 : decode cX8_init 91 = .ok (.putfield 42, 3) := by decide +kernel
theorem dX8_init_94 : decode cX8_init 94 = .ok (.aload_n 0, 1) := by decide +kernel
theorem dX8_init_95 : decode cX8_init 95 = .ok (.bipush 49, 2) := by decide +kernel
theorem dX8_init_97 : decode cX8_init 97 = .ok (.newarray .int, 2) := by decide +kernel
theorem dX8_init_99 : decode cX8_init 99 = .ok (.putfield 45, 3) := by decide +kernel
theorem dX8_init_102 : decode cX8_init 102 = .ok (.aload_n 0, 1) := by decide +kernel
theorem dX8_init_103 : decode cX8_init 103 = .ok (.getfield 7, 3) := by decide +kernel
theorem dX8_init_106 : decode cX8_init 106 = .ok (.invokestatic 48, 3) := by decide +kernel
theorem dX8_init_109 : decode cX8_init 109 = .ok (.aload_n 0, 1) := by decide +kernel
theorem dX8_init_110 : decode cX8_init 110 = .ok (.getfield 7, 3) := by decide +kernel
theorem dX8_init_113 : decode cX8_init 113 = .ok (.iconst 0, 1) := by decide +kernel
theorem dX8_init_114 : decode cX8_init 114 = .ok (.iconst 1, 1) := by decide +kernel
theorem dX8_init_115 : decode cX8_init 115 = .ok (.iastore, 1) := by decide +kernel
theorem dX8_init_116 : decode cX8_init 116 = .ok (.aload_n 0, 1) := by decide +kernel
theorem dX8_init_117 : decode cX8_init 117 = .ok (.getfield 7, 3) := by decide +kernel
theorem dX8_init_120 : decode cX8_init 120 = .ok (.iconst 1, 1) := by decide +kernel
theorem dX8_init_121 : decode cX8_init 121 = .ok (.iconst 3, 1) := by decide +kernel
theorem dX8_init_122 : decode cX8_init 122 = .ok (.iastore, 1) := by decide +kernel
theorem dX8_init_123 : decode cX8_init 123 = .ok (.return_, 1) := by decide +kernel
theorem dX8_plain_0 : decode cX8_plain 0 = .ok (.iconst 0, 1) := by decide +kernel
theorem dX8_plain_1 : decode cX8_plain 1 = .ok (.istore_n 1, 1) := by decide +kernel
theorem dX8_plain_2 : decode cX8_plain 2 = .ok (.iload_n 1, 1) := by decide +kernel
theorem dX8_plain_3 : decode cX8_plain 3 = .ok (.bipush 101, 2) := by decide +kernel
theorem dX8_plain_5 : decode cX8_plain 5 = .ok (.if_icmp .ge 13, 3) := by decide +kernel
theorem dX8_plain_8 : decode cX8_plain 8 = .ok (.aload_n 0, 1) := by decide +kernel
theorem dX8_plain_9 : decode cX8_plain 9 = .ok (.iload_n 1, 1) := by decide +kernel
theorem dX8_plain_10 : decode cX8_plain 10 = .ok (.iconst 0, 1) := by decide +kernel
theorem dX8_plain_11 : decode cX8_plain 11 = .ok (.iastore, 1) := by decide +kernel
theorem dX8_plain_12 : decode cX8_plain 12 = .ok (.iinc 1 1, 3) := by decide +kernel
theorem dX8_plain_15 : decode cX8_plain 15 = .ok (.goto (-13), 3) := by decide +kernel
theorem dX8_plain_18 : decode cX8_plain 18 = .ok (.aload_n 0, 1) := by decide +kernel
theorem dX8_plain_19 : decode cX8_plain 19 = .ok (.iconst 2, 1) := by decide +kernel
theorem dX8_plain_20 : decode cX8_plain 20 = .ok (.iconst 1, 1) := by decide +kernel
theorem dX8_plain_21 : decode cX8_plain 21 = .ok (.iastore, 1) := by decide +kernel
theorem dX8_plain_22 : decode cX8_plain 22 = .ok (.aload_n 0, 1) := by decide +kernel
theorem dX8_plain_23 : decode cX8_plain 23 = .ok (.iconst 3, 1) := by decide +kernel
theorem dX8_plain_24 : decode cX8_plain 24 = .ok (.iconst 4, 1) := by decide +kernel
theorem dX8_plain_25 : decode cX8_plain 25 = .ok (.iastore, 1) := by decide +kernel
theorem dX8_plain_26 : decode cX8_plain 26 = .ok (.aload_n 0, 1) := by decide +kernel
theorem dX8_plain_27 : decode cX8_plain 27 = .ok (.iconst 4, 1) := by decide +kernel
theorem dX8_plain_28 : decode cX8_plain 28 = .ok (.iconst 1, 1) := by decide +kernel
theorem dX8_plain_29 : decode cX8_plain 29 = .ok (.iastore, 1) := by decide +kernel
theorem dX8_plain_30 : decode cX8_plain 30 = .ok (.return_, 1) := by decide +kernel
theorem dX8_in_0 : decode cX8_in 0 = .ok (.iload_n 0, 1) := by decide +kernel
theorem dX8_in_1 : decode cX8_in 1 = .ok (.iload_n 1, 1) := by decide +kernel
theorem dX8_in_2 : decode cX8_in 2 = .ok (.if_icmp .lt 12, 3) := by decide +kernel
theorem dX8_in_5 : decode cX8_in 5 = .ok (.iload_n 0, 1) := by decide +kernel
theorem dX8_in_6 : decode cX8_in 6 = .ok (.iload_n 2, 1) := by decide +kernel
theorem dX8_in_7 : decode cX8_in 7 = .ok (.if_icmp .gt 7, 3) := by decide +kernel
theorem dX8_in_10 : decode cX8_in 10 = .ok (.iconst 1, 1) := by decide +kernel
theorem dX8_in_11 : decode cX8_in 11 = .ok (.goto 4, 3) := by decide +kernel
theorem dX8_in_14 : decode cX8_in 14 = .ok (.iconst 0, 1) := by decide +kernel
theorem dX8_in_15 : decode cX8_in 15 = .ok (.ireturn, 1) := by decide +kernel
theorem dX8_type_0 : decode cX8_type 0 = .ok (.aload_n 0, 1) := by decide +kernel
theorem dX8_type_1 : decode cX8_type 1 = .ok (.iconst 0, 1) := by decide +kernel
theorem dX8_type_2 : decode cX8_type 2 = .ok (.putfield 52, 3) := by decide +kernel
theorem dX8_type_5 : decode cX8_type 5 = .ok (.iload_n 1, 1) := by decide +kernel
theorem dX8_type_6 : decode cX8_type 6 = .ok (.iconst 0, 1) := by decide +kernel
theorem dX8_type_7 : decode cX8_type 7 = .ok (.sipush 255, 3) := by decide +kernel
theorem dX8_type_10 : decode cX8_type 10 = .ok (.invokestatic 56, 3) := by decide +kernel
theorem dX8_type_13 : decode cX8_type 13 = .ok (.ifCond .ne 5, 3) := by decide +kernel
theorem dX8_type_16 : decode cX8_type 16 = .ok (.iconst (-1), 1) := by decide +kernel
theorem dX8_type_17 : decode cX8_type 17 = .ok (.ireturn, 1) := by decide +kernel
theorem dX8_type_18 : decode cX8_type 18 = .ok (.aload_n 0, 1) := by decide +kernel
theorem dX8_type_19 : decode cX8_type 19 = .ok (.getfield 60, 3) := by decide +kernel
theorem dX8_type_22 : decode cX8_type 22 = .ok (.sipush 140, 3) := by decide +kernel
theorem dX8_type_25 : decode cX8_type 25 = .ok (.if_icmp .ne 6, 3) := by decide +kernel
theorem dX8_type_28 : decode cX8_type 28 = .ok (.bipush (-3), 2) := by decide +kernel
theorem dX8_type_30 : decode cX8_type 30 = .ok (.ireturn, 1) := by decide +kernel
theorem dX8_type_31 : decode cX8_type 31 = .ok (.aload_n 0, 1) := by decide +kernel
theorem dX8_type_32 : decode cX8_type 32 = .ok (.getfield 29, 3) := by decide +kernel
theorem dX8_type_35 : decode cX8_type 35 = .ok (.aload_n 0, 1) := by decide +kernel
theorem dX8_type_36 : decode cX8_type 36 = .ok (.getfield 60, 3) := by decide +kernel
theorem dX8_type_39 : decode cX8_type 39 = .ok (.iload_n 1, 1) := by decide +kernel
theorem dX8_type_40 : decode cX8_type 40 = .ok (.i2b, 1) := by decide +kernel
theorem dX8_type_41 : decode cX8_type 41 = .ok (.bastore, 1) := by decide +kernel
theorem dX8_type_42 : decode cX8_type 42 = .ok (.aload_n 0, 1) := by decide +kernel
theorem dX8_type_43 : decode cX8_type 43 = .ok (.dup, 1) := by decide +kernel
theorem dX8_type_44 : decode cX8_type 44 = .ok (.getfield 60, 3) := by decide +kernel
theorem dX8_type_47 : decode cX8_type 47 = .ok (.iconst 1, 1) := by decide +kernel
theorem dX8_type_48 : decode cX8_type 48 = .ok (.iadd, 1) := by decide +kernel
theorem dX8_type_49 : decode cX8_type 49 = .ok (.putfield 60, 3) := by decide +kernel
theorem dX8_type_52 : decode cX8_type 52 = .ok (.aload_n 0, 1) := by decide +kernel
theorem dX8_type_53 : decode cX8_type 53 = .ok (.getfield 60, 3) := by decide +kernel
theorem dX8_type_56 : decode cX8_type 56 = .ok (.ireturn, 1) := by decide +kernel
theorem dX8_clear_0 : decode cX8_clear 0 = .ok (.aload_n 0, 1) := by decide +kernel
theorem dX8_clear_1 : decode cX8_clear 1 = .ok (.iconst 0, 1) := by decide +kernel
theorem dX8_clear_2 : decode cX8_clear 2 = .ok (.putfield 52, 3) := by decide +kernel
theorem dX8_clear_5 : decode cX8_clear 5 = .ok (.aload_n 0, 1) := by decide +kernel
theorem dX8_clear_6 : decode cX8_clear 6 = .ok (.getfield 60, 3) := by decide +kernel
theorem dX8_clear_9 : decode cX8_clear 9 = .ok (.istore_n 1, 1) := by decide +kernel
theorem dX8_clear_10 : decode cX8_clear 10 = .ok (.aload_n 0, 1) := by decide +kernel
theorem dX8_clear_11 : decode cX8_clear 11 = .ok (.iconst 0, 1) := by decide +kernel
theorem dX8_clear_12 : decode cX8_clear 12 = .ok (.putfield 60, 3) := by decide +kernel
theorem dX8_clear_15 : decode cX8_clear 15 = .ok (.iload_n 1, 1) := by decide +kernel
theorem dX8_clear_16 : decode cX8_clear 16 = .ok (.ireturn, 1) := by decide +kernel
theorem dX8_at_0 : decode cX8_at 0 = .ok (.iload_n 1, 1) := by decide +kernel
theorem dX8_at_1 : decode cX8_at 1 = .ok (.aload_n 0, 1) := by decide +kernel
theorem dX8_at_2 : decode cX8_at 2 = .ok (.getfield 60, 3) := by decide +kernel
theorem dX8_at_5 : decode cX8_at 5 = .ok (.if_icmp .ge 16, 3) := by decide +kernel
theorem dX8_at_8 : decode cX8_at 8 = .ok (.aload_n 0, 1) := by decide +kernel
theorem dX8_at_9 : decode cX8_at 9 = .ok (.getfield 29, 3) := by decide +kernel
theorem dX8_at_12 : decode cX8_at 12 = .ok (.iload_n 1, 1) := by decide +kernel
theorem dX8_at_13 : decode cX8_at 13 = .ok (.baload, 1) := by decide +kernel
theorem dX8_at_14 : decode cX8_at 14 = .ok (.sipush 255, 3) := by decide +kernel
theorem dX8_at_17 : decode cX8_at 17 = .ok (.iand, 1) := by decide +kernel
theorem dX8_at_18 : decode cX8_at 18 = .ok (.goto 4, 3) := by decide +kernel
theorem dX8_at_21 : decode cX8_at 21 = .ok (.iconst (-1), 1) := by decide +kernel
theorem dX8_at_22 : decode cX8_at 22 = .ok (.ireturn, 1) := by decide +kernel
theorem dX8_isWord_0 : decode cX8_isWord 0 = .ok (.aload_n 0, 1) := by decide +kernel
theorem dX8_isWord_1 : decode cX8_isWord 1 = .ok (.getfield 63, 3) := by decide +kernel
theorem dX8_isWord_4 : decode cX8_isWord 4 = .ok (.aload_n 0, 1) := by decide +kernel
theorem dX8_isWord_5 : decode cX8_isWord 5 = .ok (.getfield 66, 3) := by decide +kernel
theorem dX8_isWord_8 : decode cX8_isWord 8 = .ok (.isub, 1) := by decide +kernel
theorem dX8_isWord_9 : decode cX8_isWord 9 = .ok (.iconst 5, 1) := by decide +kernel
theorem dX8_isWord_10 : decode cX8_isWord 10 = .ok (.if_icmp .ne 77, 3) := by decide +kernel
theorem dX8_isWord_13 : decode cX8_isWord 13 = .ok (.aload_n 0, 1) := by decide +kernel
theorem dX8_isWord_14 : decode cX8_isWord 14 = .ok (.aload_n 0, 1) := by decide +kernel
theorem dX8_isWord_15 : decode cX8_isWord 15 = .ok (.getfield 66, 3) := by decide +kernel
theorem dX8_isWord_18 : decode cX8_isWord 18 = .ok (.invokevirtual 69, 3) := by decide +kernel
theorem dX8_isWord_21 : decode cX8_isWord 21 = .ok (.iload_n 1, 1) := by decide +kernel
theorem dX8_isWord_22 : decode cX8_isWord 22 = .ok (.if_icmp .ne 65, 3) := by decide +kernel
theorem dX8_isWord_25 : decode cX8_isWord 25 = .ok (.aload_n 0, 1) := by decide +kernel
theorem dX8_isWord_26 : decode cX8_isWord 26 = .ok (.aload_n 0, 1) := by decide +kernel
theorem dX8_isWord_27 : decode cX8_isWord 27 = .ok (.getfield 66, 3) := by decide +kernel
theorem dX8_isWord_30 : decode cX8_isWord 30 = .ok (.iconst 1, 1) := by decide +kernel
theorem dX8_isWord_31 : decode cX8_isWord 31 = .ok (.iadd, 1) := by decide +kernel
theorem dX8_isWord_32 : decode cX8_isWord 32 = .ok (.invokevirtual 69, 3) := by decide +kernel
theorem dX8_isWord_35 : decode cX8_isWord 35 = .ok (.iload_n 2, 1) := by decide +kernel
theorem dX8_isWord_36 : decode cX8_isWord 36 = .ok (.if_icmp .ne 51, 3) := by decide +kernel
theorem dX8_isWord_39 : decode cX8_isWord 39 = .ok (.aload_n 0, 1) := by decide +kernel
theorem dX8_isWord_40 : decode cX8_isWord 40 = .ok (.aload_n 0, 1) := by decide +kernel
theorem dX8_isWord_41 : decode cX8_isWord 41 = .ok (.getfield 66, 3) := by decide +kernel
theorem dX8_isWord_44 : decode cX8_isWord 44 = .ok (.iconst 2, 1) := by decide +kernel
theorem dX8_isWord_45 : decode cX8_isWord 45 = .ok (.iadd, 1) := by decide +kernel
theorem dX8_isWord_46 : decode cX8_isWord 46 = .ok (.invokevirtual 69, 3) := by decide +kernel
theorem dX8_isWord_49 : decode cX8_isWord 49 = .ok (.iload_n 3, 1) := by decide +kernel
theorem dX8_isWord_50 : decode cX8_isWord 50 = .ok (.if_icmp .ne 37, 3) := by decide +kernel
theorem dX8_isWord_53 : decode cX8_isWord 53 = .ok (.aload_n 0, 1) := by decide +kernel
theorem dX8_isWord_54 : decode cX8_isWord 54 = .ok (.aload_n 0, 1) := by decide +kernel
theorem dX8_isWord_55 : decode cX8_isWord 55 = .ok (.getfield 66, 3) := by decide +kernel
theorem dX8_isWord_58 : decode cX8_isWord 58 = .ok (.iconst 3, 1) := by decide +kernel
theorem dX8_isWord_59 : decode cX8_isWord 59 = .ok (.iadd, 1) := by decide +kernel
theorem dX8_isWord_60 : decode cX8_isWord 60 = .ok (.invokevirtual 69, 3) := by decide +kernel
theorem dX8_isWord_63 : decode cX8_isWord 63 = .ok (.iload 4, 2) := by decide +kernel
theorem dX8_isWord_65 : decode cX8_isWord 65 = .ok (.if_icmp .ne 22, 3) := by decide +kernel
theorem dX8_isWord_68 : decode cX8_isWord 68 = .ok (.aload_n 0, 1) := by decide +kernel
theorem dX8_isWord_69 : decode cX8_isWord 69 = .ok (.aload_n 0, 1) := by decide +kernel
theorem dX8_isWord_70 : decode cX8_isWord 70 = .ok (.getfield 66, 3) := by decide +kernel
theorem dX8_isWord_73 : decode cX8_isWord 73 = .ok (.iconst 4, 1) := by decide +kernel
theorem dX8_isWord_74 : decode cX8_isWord 74 = .ok (.iadd, 1) := by decide +kernel
theorem dX8_isWord_75 : decode cX8_isWord 75 = .ok (.invokevirtual 69, 3) := by decide +kernel
theorem dX8_isWord_78 : decode cX8_isWord 78 = .ok (.iload 5, 2) := by decide +kernel
theorem dX8_isWord_80 : decode cX8_isWord 80 = .ok (.if_icmp .ne 7, 3) := by decide +kernel
theorem dX8_isWord_83 : decode cX8_isWord 83 = .ok (.iconst 1, 1) := by decide +kernel
theorem dX8_isWord_84 : decode cX8_isWord 84 = .ok (.goto 4, 3) := by decide +kernel
theorem dX8_isWord_87 : decode cX8_isWord 87 = .ok (.iconst 0, 1) := by decide +kernel
theorem dX8_isWord_88 : decode cX8_isWord 88 = .ok (.ireturn, 1) := by decide +kernel
theorem dX8_wordOf_0 : decode cX8_wordOf 0 = .ok (.aload_n 0, 1) := by decide +kernel
theorem dX8_wordOf_1 : decode cX8_wordOf 1 = .ok (.bipush 102, 2) := by decide +kernel
theorem dX8_wordOf_3 : decode cX8_wordOf 3 = .ok (.bipush 114, 2) := by decide +kernel
theorem dX8_wordOf_5 : decode cX8_wordOf 5 = .ok (.bipush 97, 2) := by decide +kernel
theorem dX8_wordOf_7 : decode cX8_wordOf 7 = .ok (.bipush 109, 2) := by decide +kernel
theorem dX8_wordOf_9 : decode cX8_wordOf 9 = .ok (.bipush 101, 2) := by decide +kernel
theorem dX8_wordOf_11 : decode cX8_wordOf 11 = .ok (.invokevirtual 73, 3) := by decide +kernel
theorem dX8_wordOf_14 : decode cX8_wordOf 14 = .ok (.ifCond .eq 5, 3) := by decide +kernel
theorem dX8_wordOf_17 : decode cX8_wordOf 17 = .ok (.iconst 1, 1) := by decide +kernel
theorem dX8_wordOf_18 : decode cX8_wordOf 18 = .ok (.ireturn, 1) := by decide +kernel
theorem dX8_wordOf_19 : decode cX8_wordOf 19 = .ok (.aload_n 0, 1) := by decide +kernel
theorem dX8_wordOf_20 : decode cX8_wordOf 20 = .ok (.bipush 102, 2) := by decide +kernel
theorem dX8_wordOf_22 : decode cX8_wordOf 22 = .ok (.bipush 108, 2) := by decide +kernel
theorem dX8_wordOf_24 : decode cX8_wordOf 24 = .ok (.bipush 111, 2) := by decide +kernel
theorem dX8_wordOf_26 : decode cX8_wordOf 26 = .ok (.bipush 111, 2) := by decide +kernel
theorem dX8_wordOf_28 : decode cX8_wordOf 28 = .ok (.bipush 114, 2) := by decide +kernel
theorem dX8_wordOf_30 : decode cX8_wordOf 30 = .ok (.invokevirtual 73, 3) := by decide +kernel
theorem dX8_wordOf_33 : decode cX8_wordOf 33 = .ok (.ifCond .eq 5, 3) := by decide +kernel
theorem dX8_wordOf_36 : decode cX8_wordOf 36 = .ok (.iconst 2, 1) := by decide +kernel
theorem dX8_wordOf_37 : decode cX8_wordOf 37 = .ok (.ireturn, 1) := by decide +kernel
theorem dX8_wordOf_38 : decode cX8_wordOf 38 = .ok (.aload_n 0, 1) := by decide +kernel
theorem dX8_wordOf_39 : decode cX8_wordOf 39 = .ok (.bipush 114, 2) := by decide +kernel
theorem dX8_wordOf_41 : decode cX8_wordOf 41 = .ok (.bipush 101, 2) := by decide +kernel
theorem dX8_wordOf_43 : decode cX8_wordOf 43 = .ok (.bipush 97, 2) := by decide +kernel
theorem dX8_wordOf_45 : decode cX8_wordOf 45 = .ok (.bipush 99, 2) := by decide +kernel
theorem dX8_wordOf_47 : decode cX8_wordOf 47 = .ok (.bipush 104, 2) := by decide +kernel
theorem dX8_wordOf_49 : decode cX8_wordOf 49 = .ok (.invokevirtual 73, 3) := by decide +kernel
theorem dX8_wordOf_52 : decode cX8_wordOf 52 = .ok (.ifCond .eq 7, 3) := by decide +kernel
theorem dX8_wordOf_55 : decode cX8_wordOf 55 = .ok (.iconst 3, 1) := by decide +kernel
theorem dX8_wordOf_56 : decode cX8_wordOf 56 = .ok (.goto 26, 3) := by decide +kernel
theorem dX8_wordOf_59 : decode cX8_wordOf 59 = .ok (.aload_n 0, 1) := by decide +kernel
theorem dX8_wordOf_60 : decode cX8_wordOf 60 = .ok (.bipush 108, 2) := by decide +kernel
theorem dX8_wordOf_62 : decode cX8_wordOf 62 = .ok (.bipush 101, 2) := by decide +kernel
theorem dX8_wordOf_64 : decode cX8_wordOf 64 = .ok (.bipush 97, 2) := by decide +kernel
theorem dX8_wordOf_66 : decode cX8_wordOf 66 = .ok (.bipush 115, 2) := by decide +kernel
theorem dX8_wordOf_68 : decode cX8_wordOf 68 = .ok (.bipush 116, 2) := by decide +kernel
theorem dX8_wordOf_70 : decode cX8_wordOf 70 = .ok (.invokevirtual 73, 3) := by decide +kernel
theorem dX8_wordOf_73 : decode cX8_wordOf 73 = .ok (.ifCond .eq 7, 3) := by decide +kernel
theorem dX8_wordOf_76 : decode cX8_wordOf 76 = .ok (.iconst 4, 1) := by decide +kernel
theorem dX8_wordOf_77 : decode cX8_wordOf 77 = .ok (.goto 5, 3) := by decide +kernel
theorem dX8_wordOf_80 : decode cX8_wordOf 80 = .ok (.bipush 7, 2) := by decide +kernel
theorem dX8_wordOf_82 : decode cX8_wordOf 82 = .ok (.ireturn, 1) := by decide +kernel
theorem dX8_steps_0 : decode cX8_steps 0 = .ok (.aload_n 0, 1) := by decide +kernel
theorem dX8_steps_1 : decode cX8_steps 1 = .ok (.aload_n 0, 1) := by decide +kernel
theorem dX8_steps_2 : decode cX8_steps 2 = .ok (.getfield 63, 3) := by decide +kernel
theorem dX8_steps_5 : decode cX8_steps 5 = .ok (.putfield 66, 3) := by decide +kernel
theorem dX8_steps_8 : decode cX8_steps 8 = .ok (.aload_n 0, 1) := by decide +kernel
theorem dX8_steps_9 : decode cX8_steps 9 = .ok (.aload_n 0, 1) := by decide +kernel
theorem dX8_steps_10 : decode cX8_steps 10 = .ok (.getfield 66, 3) := by decide +kernel
theorem dX8_steps_13 : decode cX8_steps 13 = .ok (.invokevirtual 69, 3) := by decide +kernel
theorem dX8_steps_16 : decode cX8_steps 16 = .ok (.bipush 32, 2) := by decide +kernel
theorem dX8_steps_18 : decode cX8_steps 18 = .ok (.if_icmp .ne 16, 3) := by decide +kernel
theorem dX8_steps_21 : decode cX8_steps 21 = .ok (.aload_n 0, 1) := by decide +kernel
theorem dX8_steps_22 : decode cX8_steps 22 = .ok (.dup, 1) := by decide +kernel
theorem dX8_steps_23 : decode cX8_steps 23 = .ok (.getfield 66, 3) := by decide +kernel
theorem dX8_steps_26 : decode cX8_steps 26 = .ok (.iconst 1, 1) := by decide +kernel
theorem dX8_steps_27 : decode cX8_steps 27 = .ok (.iadd, 1) := by decide +kernel
theorem dX8_steps_28 : decode cX8_steps 28 = .ok (.putfield 66, 3) := by decide +kernel
theorem dX8_steps_31 : decode cX8_steps 31 = .ok (.goto (-23), 3) := by decide +kernel
theorem dX8_steps_34 : decode cX8_steps 34 = .ok (.aload_n 0, 1) := by decide +kernel
theorem dX8_steps_35 : decode cX8_steps 35 = .ok (.aload_n 0, 1) := by decide +kernel
theorem dX8_steps_36 : decode cX8_steps 36 = .ok (.getfield 66, 3) := by decide +kernel
theorem dX8_steps_39 : decode cX8_steps 39 = .ok (.putfield 63, 3) := by decide +kernel
theorem dX8_steps_42 : decode cX8_steps 42 = .ok (.aload_n 0, 1) := by decide +kernel
theorem dX8_steps_43 : decode cX8_steps 43 = .ok (.aload_n 0, 1) := by decide +kernel
theorem dX8_steps_44 : decode cX8_steps 44 = .ok (.getfield 63, 3) := by decide +kernel
theorem dX8_steps_47 : decode cX8_steps 47 = .ok (.invokevirtual 69, 3) := by decide +kernel
theorem dX8_steps_50 : decode cX8_steps 50 = .ok (.ifCond .ge 11, 3) := by decide +kernel
theorem dX8_steps_53 : decode cX8_steps 53 = .ok (.aload_n 0, 1) := by decide +kernel
theorem dX8_steps_54 : decode cX8_steps 54 = .ok (.iconst 0, 1) := by decide +kernel
theorem dX8_steps_55 : decode cX8_steps 55 = .ok (.putfield 77, 3) := by decide +kernel
theorem dX8_steps_58 : decode cX8_steps 58 = .ok (.goto 154, 3) := by decide +kernel
theorem dX8_steps_61 : decode cX8_steps 61 = .ok (.aload_n 0, 1) := by decide +kernel
theorem dX8_steps_62 : decode cX8_steps 62 = .ok (.aload_n 0, 1) := by decide +kernel
theorem dX8_steps_63 : decode cX8_steps 63 = .ok (.getfield 63, 3) := by decide +kernel
theorem dX8_steps_66 : decode cX8_steps 66 = .ok (.invokevirtual 69, 3) := by decide +kernel
theorem dX8_steps_69 : decode cX8_steps 69 = .ok (.bipush 48, 2) := by decide +kernel
theorem dX8_steps_71 : decode cX8_steps 71 = .ok (.bipush 57, 2) := by decide +kernel
theorem dX8_steps_73 : decode cX8_steps 73 = .ok (.invokestatic 56, 3) := by decide +kernel
theorem dX8_steps_76 : decode cX8_steps 76 = .ok (.ifCond .eq 42, 3) := by decide +kernel
theorem dX8_steps_79 : decode cX8_steps 79 = .ok (.aload_n 0, 1) := by decide +kernel
theorem dX8_steps_80 : decode cX8_steps 80 = .ok (.aload_n 0, 1) := by decide +kernel
theorem dX8_steps_81 : decode cX8_steps 81 = .ok (.getfield 63, 3) := by decide +kernel
theorem dX8_steps_84 : decode cX8_steps 84 = .ok (.invokevirtual 69, 3) := by decide +kernel
theorem dX8_steps_87 : decode cX8_steps 87 = .ok (.bipush 48, 2) := by decide +kernel
theorem dX8_steps_89 : decode cX8_steps 89 = .ok (.bipush 57, 2) := by decide +kernel
theorem dX8_steps_91 : decode cX8_steps 91 = .ok (.invokestatic 56, 3) := by decide +kernel
theorem dX8_steps_94 : decode cX8_steps 94 = .ok (.ifCond .eq 16, 3) := by decide +kernel
theorem dX8_steps_97 : decode cX8_steps 97 = .ok (.aload_n 0, 1) := by decide +kernel
theorem dX8_steps_98 : decode cX8_steps 98 = .ok (.dup, 1) := by decide +kernel
theorem dX8_steps_99 : decode cX8_steps 99 = .ok (.getfield 63, 3) := by decide +kernel
theorem dX8_steps_102 : decode cX8_steps 102 = .ok (.iconst 1, 1) := by decide +kernel
theorem dX8_steps_103 : decode cX8_steps 103 = .ok (.iadd, 1) := by decide +kernel
theorem dX8_steps_104 : decode cX8_steps 104 = .ok (.putfield 63, 3) := by decide +kernel
theorem dX8_steps_107 : decode cX8_steps 107 = .ok (.goto (-28), 3) := by decide +kernel
theorem dX8_steps_110 : decode cX8_steps 110 = .ok (.aload_n 0, 1) := by decide +kernel
theorem dX8_steps_111 : decode cX8_steps 111 = .ok (.iconst 5, 1) := by decide +kernel
theorem dX8_steps_112 : decode cX8_steps 112 = .ok (.putfield 77, 3) := by decide +kernel
theorem dX8_steps_115 : decode cX8_steps 115 = .ok (.goto 97, 3) := by decide +kernel
theorem dX8_steps_118 : decode cX8_steps 118 = .ok (.aload_n 0, 1) := by decide +kernel
theorem dX8_steps_119 : decode cX8_steps 119 = .ok (.aload_n 0, 1) := by decide +kernel
theorem dX8_steps_120 : decode cX8_steps 120 = .ok (.getfield 63, 3) := by decide +kernel
theorem dX8_steps_123 : decode cX8_steps 123 = .ok (.invokevirtual 69, 3) := by decide +kernel
theorem dX8_steps_126 : decode cX8_steps 126 = .ok (.bipush 97, 2) := by decide +kernel
theorem dX8_steps_128 : decode cX8_steps 128 = .ok (.bipush 122, 2) := by decide +kernel
theorem dX8_steps_130 : decode cX8_steps 130 = .ok (.invokestatic 56, 3) := by decide +kernel
theorem dX8_steps_133 : decode cX8_steps 133 = .ok (.ifCond .eq 45, 3) := by decide +kernel
theorem dX8_steps_136 : decode cX8_steps 136 = .ok (.aload_n 0, 1) := by decide +kernel
theorem dX8_steps_137 : decode cX8_steps 137 = .ok (.aload_n 0, 1) := by decide +kernel
theorem dX8_steps_138 : decode cX8_steps 138 = .ok (.getfield 63, 3) := by decide +kernel
theorem dX8_steps_141 : decode cX8_steps 141 = .ok (.invokevirtual 69, 3) := by decide +kernel
theorem dX8_steps_144 : decode cX8_steps 144 = .ok (.bipush 97, 2) := by decide +kernel
theorem dX8_steps_146 : decode cX8_steps 146 = .ok (.bipush 122, 2) := by decide +kernel
theorem dX8_steps_148 : decode cX8_steps 148 = .ok (.invokestatic 56, 3) := by decide +kernel
theorem dX8_steps_151 : decode cX8_steps 151 = .ok (.ifCond .eq 16, 3) := by decide +kernel
theorem dX8_steps_154 : decode cX8_steps 154 = .ok (.aload_n 0, 1) := by decide +kernel
theorem dX8_steps_155 : decode cX8_steps 155 = .ok (.dup, 1) := by decide +kernel
theorem dX8_steps_156 : decode cX8_steps 156 = .ok (.getfield 63, 3) := by decide +kernel
theorem dX8_steps_159 : decode cX8_steps 159 = .ok (.iconst 1, 1) := by decide +kernel
theorem dX8_steps_160 : decode cX8_steps 160 = .ok (.iadd, 1) := by decide +kernel
theorem dX8_steps_161 : decode cX8_steps 161 = .ok (.putfield 63, 3) := by decide +kernel
theorem dX8_steps_164 : decode cX8_steps 164 = .ok (.goto (-28), 3) := by decide +kernel
theorem dX8_steps_167 : decode cX8_steps 167 = .ok (.aload_n 0, 1) := by decide +kernel
theorem dX8_steps_168 : decode cX8_steps 168 = .ok (.aload_n 0, 1) := by decide +kernel
theorem dX8_steps_169 : decode cX8_steps 169 = .ok (.invokevirtual 80, 3) := by decide +kernel
theorem dX8_steps_172 : decode cX8_steps 172 = .ok (.putfield 77, 3) := by decide +kernel
theorem dX8_steps_175 : decode cX8_steps 175 = .ok (.goto 37, 3) := by decide +kernel
theorem dX8_steps_178 : decode cX8_steps 178 = .ok (.aload_n 0, 1) := by decide +kernel
theorem dX8_steps_179 : decode cX8_steps 179 = .ok (.aload_n 0, 1) := by decide +kernel
theorem dX8_steps_180 : decode cX8_steps 180 = .ok (.aload_n 0, 1) := by decide +kernel
theorem dX8_steps_181 : decode cX8_steps 181 = .ok (.getfield 63, 3) := by decide +kernel
theorem dX8_steps_184 : decode cX8_steps 184 = .ok (.invokevirtual 69, 3) := by decide +kernel
theorem dX8_steps_187 : decode cX8_steps 187 = .ok (.bipush 59, 2) := by decide +kernel
theorem dX8_steps_189 : decode cX8_steps 189 = .ok (.if_icmp .ne 8, 3) := by decide +kernel
theorem dX8_steps_192 : decode cX8_steps 192 = .ok (.bipush 6, 2) := by decide +kernel
theorem dX8_steps_194 : decode cX8_steps 194 = .ok (.goto 5, 3) := by decide +kernel
theorem dX8_steps_197 : decode cX8_steps 197 = .ok (.bipush 7, 2) := by decide +kernel
theorem dX8_steps_199 : decode cX8_steps 199 = .ok (.putfield 77, 3) := by decide +kernel
theorem dX8_steps_202 : decode cX8_steps 202 = .ok (.aload_n 0, 1) := by decide +kernel
theorem dX8_steps_203 : decode cX8_steps 203 = .ok (.dup, 1) := by decide +kernel
theorem dX8_steps_204 : decode cX8_steps 204 = .ok (.getfield 63, 3) := by decide +kernel
theorem dX8_steps_207 : decode cX8_steps 207 = .ok (.iconst 1, 1) := by decide +kernel
theorem dX8_steps_208 : decode cX8_steps 208 = .ok (.iadd, 1) := by decide +kernel
theorem dX8_steps_209 : decode cX8_steps 209 = .ok (.putfield 63, 3) := by decide +kernel
theorem dX8_steps_212 : decode cX8_steps 212 = .ok (.return_, 1) := by decide +kernel
theorem dX8_takes_0 : decode cX8_takes 0 = .ok (.aload_n 0, 1) := by decide +kernel
theorem dX8_takes_1 : decode cX8_takes 1 = .ok (.getfield 84, 3) := by decide +kernel
theorem dX8_takes_4 : decode cX8_takes 4 = .ok (.bipush (-9), 2) := by decide +kernel
theorem dX8_takes_6 : decode cX8_takes 6 = .ok (.if_icmp .ne 22, 3) := by decide +kernel
theorem dX8_takes_9 : decode cX8_takes 9 = .ok (.iload_n 1, 1) := by decide +kernel
theorem dX8_takes_10 : decode cX8_takes 10 = .ok (.ifCond .eq 10, 3) := by decide +kernel
theorem dX8_takes_13 : decode cX8_takes 13 = .ok (.aload_n 0, 1) := by decide +kernel
theorem dX8_takes_14 : decode cX8_takes 14 = .ok (.invokevirtual 87, 3) := by decide +kernel
theorem dX8_takes_17 : decode cX8_takes 17 = .ok (.goto 11, 3) := by decide +kernel
theorem dX8_takes_20 : decode cX8_takes 20 = .ok (.aload_n 0, 1) := by decide +kernel
theorem dX8_takes_21 : decode cX8_takes 21 = .ok (.aload_n 0, 1) := by decide +kernel
theorem dX8_takes_22 : decode cX8_takes 22 = .ok (.getfield 66, 3) := by decide +kernel
theorem dX8_takes_25 : decode cX8_takes 25 = .ok (.putfield 84, 3) := by decide +kernel
theorem dX8_takes_28 : decode cX8_takes 28 = .ok (.return_, 1) := by decide +kernel
theorem dX8_readsFrame_0 : decode cX8_readsFrame 0 = .ok (.aload_n 0, 1) := by decide +kernel
theorem dX8_readsFrame_1 : decode cX8_readsFrame 1 = .ok (.aload_n 0, 1) := by decide +kernel
theorem dX8_readsFrame_2 : decode cX8_readsFrame 2 = .ok (.getfield 13, 3) := by decide +kernel
theorem dX8_readsFrame_5 : decode cX8_readsFrame 5 = .ok (.iconst 0, 1) := by decide +kernel
theorem dX8_readsFrame_6 : decode cX8_readsFrame 6 = .ok (.iaload, 1) := by decide +kernel
theorem dX8_readsFrame_7 : decode cX8_readsFrame 7 = .ok (.bipush 8, 2) := by decide +kernel
theorem dX8_readsFrame_9 : decode cX8_readsFrame 9 = .ok (.if_icmp .ge 7, 3) := by decide +kernel
theorem dX8_readsFrame_12 : decode cX8_readsFrame 12 = .ok (.iconst 1, 1) := by decide +kernel
theorem dX8_readsFrame_13 : decode cX8_readsFrame 13 = .ok (.goto 4, 3) := by decide +kernel
theorem dX8_readsFrame_16 : decode cX8_readsFrame 16 = .ok (.iconst 0, 1) := by decide +kernel
theorem dX8_readsFrame_17 : decode cX8_readsFrame 17 = .ok (.invokevirtual 90, 3) := by decide +kernel
theorem dX8_readsFrame_20 : decode cX8_readsFrame 20 = .ok (.aload_n 0, 1) := by decide +kernel
theorem dX8_readsFrame_21 : decode cX8_readsFrame 21 = .ok (.getfield 63, 3) := by decide +kernel
theorem dX8_readsFrame_24 : decode cX8_readsFrame 24 = .ok (.aload_n 0, 1) := by decide +kernel
theorem dX8_readsFrame_25 : decode cX8_readsFrame 25 = .ok (.getfield 66, 3) := by decide +kernel
theorem dX8_readsFrame_28 : decode cX8_readsFrame 28 = .ok (.isub, 1) := by decide +kernel
theorem dX8_readsFrame_29 : decode cX8_readsFrame 29 = .ok (.istore_n 1, 1) := by decide +kernel
theorem dX8_readsFrame_30 : decode cX8_readsFrame 30 = .ok (.aload_n 0, 1) := by decide +kernel
theorem dX8_readsFrame_31 : decode cX8_readsFrame 31 = .ok (.getfield 77, 3) := by decide +kernel
theorem dX8_readsFrame_34 : decode cX8_readsFrame 34 = .ok (.iconst 5, 1) := by decide +kernel
theorem dX8_readsFrame_35 : decode cX8_readsFrame 35 = .ok (.if_icmp .ne 36, 3) := by decide +kernel
theorem dX8_readsFrame_38 : decode cX8_readsFrame 38 = .ok (.iload_n 1, 1) := by decide +kernel
theorem dX8_readsFrame_39 : decode cX8_readsFrame 39 = .ok (.iconst 3, 1) := by decide +kernel
theorem dX8_readsFrame_40 : decode cX8_readsFrame 40 = .ok (.bipush 12, 2) := by decide +kernel
theorem dX8_readsFrame_42 : decode cX8_readsFrame 42 = .ok (.invokestatic 56, 3) := by decide +kernel
theorem dX8_readsFrame_45 : decode cX8_readsFrame 45 = .ok (.ifCond .eq 26, 3) := by decide +kernel
theorem dX8_readsFrame_48 : decode cX8_readsFrame 48 = .ok (.aload_n 0, 1) := by decide +kernel
theorem dX8_readsFrame_49 : decode cX8_readsFrame 49 = .ok (.getfield 13, 3) := by decide +kernel
theorem dX8_readsFrame_52 : decode cX8_readsFrame 52 = .ok (.iconst 0, 1) := by decide +kernel
theorem dX8_readsFrame_53 : decode cX8_readsFrame 53 = .ok (.iaload, 1) := by decide +kernel
theorem dX8_readsFrame_54 : decode cX8_readsFrame 54 = .ok (.ifCond .eq 13, 3) := by decide +kernel
theorem dX8_readsFrame_57 : decode cX8_readsFrame 57 = .ok (.iload_n 1, 1) := by decide +kernel
theorem dX8_readsFrame_58 : decode cX8_readsFrame 58 = .ok (.aload_n 0, 1) := by decide +kernel
theorem dX8_readsFrame_59 : decode cX8_readsFrame 59 = .ok (.getfield 13, 3) := by decide +kernel
theorem dX8_readsFrame_62 : decode cX8_readsFrame 62 = .ok (.iconst 1, 1) := by decide +kernel
theorem dX8_readsFrame_63 : decode cX8_readsFrame 63 = .ok (.iaload, 1) := by decide +kernel
theorem dX8_readsFrame_64 : decode cX8_readsFrame 64 = .ok (.if_icmp .ne 7, 3) := by decide +kernel
theorem dX8_readsFrame_67 : decode cX8_readsFrame 67 = .ok (.iconst 1, 1) := by decide +kernel
theorem dX8_readsFrame_68 : decode cX8_readsFrame 68 = .ok (.goto 4, 3) := by decide +kernel
theorem dX8_readsFrame_71 : decode cX8_readsFrame 71 = .ok (.iconst 0, 1) := by decide +kernel
theorem dX8_readsFrame_72 : decode cX8_readsFrame 72 = .ok (.istore_n 2, 1) := by decide +kernel
theorem dX8_readsFrame_73 : decode cX8_readsFrame 73 = .ok (.aload_n 0, 1) := by decide +kernel
theorem dX8_readsFrame_74 : decode cX8_readsFrame 74 = .ok (.getfield 84, 3) := by decide +kernel
theorem dX8_readsFrame_77 : decode cX8_readsFrame 77 = .ok (.bipush (-9), 2) := by decide +kernel
theorem dX8_readsFrame_79 : decode cX8_readsFrame 79 = .ok (.if_icmp .ne 68, 3) := by decide +kernel
theorem dX8_readsFrame_82 : decode cX8_readsFrame 82 = .ok (.iload_n 2, 1) := by decide +kernel
theorem dX8_readsFrame_83 : decode cX8_readsFrame 83 = .ok (.ifCond .eq 64, 3) := by decide +kernel
theorem dX8_readsFrame_86 : decode cX8_readsFrame 86 = .ok (.aload_n 0, 1) := by decide +kernel
theorem dX8_readsFrame_87 : decode cX8_readsFrame 87 = .ok (.getfield 13, 3) := by decide +kernel
theorem dX8_readsFrame_90 : decode cX8_readsFrame 90 = .ok (.iconst 1, 1) := by decide +kernel
theorem dX8_readsFrame_91 : decode cX8_readsFrame 91 = .ok (.iload_n 1, 1) := by decide +kernel
theorem dX8_readsFrame_92 : decode cX8_readsFrame 92 = .ok (.iastore, 1) := by decide +kernel
theorem dX8_readsFrame_93 : decode cX8_readsFrame 93 = .ok (.iconst 0, 1) := by decide +kernel
theorem dX8_readsFrame_94 : decode cX8_readsFrame 94 = .ok (.istore_n 3, 1) := by decide +kernel
theorem dX8_readsFrame_95 : decode cX8_readsFrame 95 = .ok (.iload_n 3, 1) := by decide +kernel
theorem dX8_readsFrame_96 : decode cX8_readsFrame 96 = .ok (.iload_n 1, 1) := by decide +kernel
theorem dX8_readsFrame_97 : decode cX8_readsFrame 97 = .ok (.if_icmp .ge 40, 3) := by decide +kernel
theorem dX8_readsFrame_100 : decode cX8_readsFrame 100 = .ok (.aload_n 0, 1) := by decide +kernel
theorem dX8_readsFrame_101 : decode cX8_readsFrame 101 = .ok (.getfield 13, 3) := by decide +kernel
theorem dX8_readsFrame_104 : decode cX8_readsFrame 104 = .ok (.iconst 5, 1) := by decide +kernel
theorem dX8_readsFrame_105 : decode cX8_readsFrame 105 = .ok (.bipush 12, 2) := by decide +kernel
theorem dX8_readsFrame_107 : decode cX8_readsFrame 107 = .ok (.aload_n 0, 1) := by decide +kernel
theorem dX8_readsFrame_108 : decode cX8_readsFrame 108 = .ok (.getfield 13, 3) := by decide +kernel
theorem dX8_readsFrame_111 : decode cX8_readsFrame 111 = .ok (.iconst 0, 1) := by decide +kernel
theorem dX8_readsFrame_112 : decode cX8_readsFrame 112 = .ok (.iaload, 1) := by decide +kernel
theorem dX8_readsFrame_113 : decode cX8_readsFrame 113 = .ok (.imul, 1) := by decide +kernel
theorem dX8_readsFrame_114 : decode cX8_readsFrame 114 = .ok (.iadd, 1) := by decide +kernel
theorem dX8_readsFrame_115 : decode cX8_readsFrame 115 = .ok (.iload_n 3, 1) := by decide +kernel
theorem dX8_readsFrame_116 : decode cX8_readsFrame 116 = .ok (.iadd, 1) := by decide +kernel
theorem dX8_readsFrame_117 : decode cX8_readsFrame 117 = .ok (.aload_n 0, 1) := by decide +kernel
theorem dX8_readsFrame_118 : decode cX8_readsFrame 118 = .ok (.aload_n 0, 1) := by decide +kernel
theorem dX8_readsFrame_119 : decode cX8_readsFrame 119 = .ok (.getfield 66, 3) := by decide +kernel
theorem dX8_readsFrame_122 : decode cX8_readsFrame 122 = .ok (.iload_n 3, 1) := by decide +kernel
theorem dX8_readsFrame_123 : decode cX8_readsFrame 123 = .ok (.iadd, 1) := by decide +kernel
theorem dX8_readsFrame_124 : decode cX8_readsFrame 124 = .ok (.invokevirtual 69, 3) := by decide +kernel
theorem dX8_readsFrame_127 : decode cX8_readsFrame 127 = .ok (.bipush 48, 2) := by decide +kernel
theorem dX8_readsFrame_129 : decode cX8_readsFrame 129 = .ok (.isub, 1) := by decide +kernel
theorem dX8_readsFrame_130 : decode cX8_readsFrame 130 = .ok (.iastore, 1) := by decide +kernel
theorem dX8_readsFrame_131 : decode cX8_readsFrame 131 = .ok (.iinc 3 1, 3) := by decide +kernel
theorem dX8_readsFrame_134 : decode cX8_readsFrame 134 = .ok (.goto (-39), 3) := by decide +kernel
theorem dX8_readsFrame_137 : decode cX8_readsFrame 137 = .ok (.aload_n 0, 1) := by decide +kernel
theorem dX8_readsFrame_138 : decode cX8_readsFrame 138 = .ok (.getfield 13, 3) := by decide +kernel
theorem dX8_readsFrame_141 : decode cX8_readsFrame 141 = .ok (.iconst 0, 1) := by decide +kernel
theorem dX8_readsFrame_142 : decode cX8_readsFrame 142 = .ok (.dup2, 1) := by decide +kernel
theorem dX8_readsFrame_143 : decode cX8_readsFrame 143 = .ok (.iaload, 1) := by decide +kernel
theorem dX8_readsFrame_144 : decode cX8_readsFrame 144 = .ok (.iconst 1, 1) := by decide +kernel
theorem dX8_readsFrame_145 : decode cX8_readsFrame 145 = .ok (.iadd, 1) := by decide +kernel
theorem dX8_readsFrame_146 : decode cX8_readsFrame 146 = .ok (.iastore, 1) := by decide +kernel
theorem dX8_readsFrame_147 : decode cX8_readsFrame 147 = .ok (.aload_n 0, 1) := by decide +kernel
theorem dX8_readsFrame_148 : decode cX8_readsFrame 148 = .ok (.iload_n 2, 1) := by decide +kernel
theorem dX8_readsFrame_149 : decode cX8_readsFrame 149 = .ok (.invokevirtual 90, 3) := by decide +kernel
theorem dX8_readsFrame_152 : decode cX8_readsFrame 152 = .ok (.return_, 1) := by decide +kernel
theorem dX8_readsNumber_0 : decode cX8_readsNumber 0 = .ok (.aload_n 0, 1) := by decide +kernel
theorem dX8_readsNumber_1 : decode cX8_readsNumber 1 = .ok (.iconst 1, 1) := by decide +kernel
theorem dX8_readsNumber_2 : decode cX8_readsNumber 2 = .ok (.invokevirtual 90, 3) := by decide +kernel
theorem dX8_readsNumber_5 : decode cX8_readsNumber 5 = .ok (.aload_n 0, 1) := by decide +kernel
theorem dX8_readsNumber_6 : decode cX8_readsNumber 6 = .ok (.getfield 63, 3) := by decide +kernel
theorem dX8_readsNumber_9 : decode cX8_readsNumber 9 = .ok (.aload_n 0, 1) := by decide +kernel
theorem dX8_readsNumber_10 : decode cX8_readsNumber 10 = .ok (.getfield 66, 3) := by decide +kernel
theorem dX8_readsNumber_13 : decode cX8_readsNumber 13 = .ok (.isub, 1) := by decide +kernel
theorem dX8_readsNumber_14 : decode cX8_readsNumber 14 = .ok (.istore 4, 2) := by decide +kernel
theorem dX8_readsNumber_16 : decode cX8_readsNumber 16 = .ok (.iload 4, 2) := by decide +kernel
theorem dX8_readsNumber_18 : decode cX8_readsNumber 18 = .ok (.iconst 1, 1) := by decide +kernel
theorem dX8_readsNumber_19 : decode cX8_readsNumber 19 = .ok (.if_icmp .ne 17, 3) := by decide +kernel
theorem dX8_readsNumber_22 : decode cX8_readsNumber 22 = .ok (.aload_n 0, 1) := by decide +kernel
theorem dX8_readsNumber_23 : decode cX8_readsNumber 23 = .ok (.aload_n 0, 1) := by decide +kernel
theorem dX8_readsNumber_24 : decode cX8_readsNumber 24 = .ok (.getfield 66, 3) := by decide +kernel
theorem dX8_readsNumber_27 : decode cX8_readsNumber 27 = .ok (.invokevirtual 69, 3) := by decide +kernel
theorem dX8_readsNumber_30 : decode cX8_readsNumber 30 = .ok (.bipush 48, 2) := by decide +kernel
theorem dX8_readsNumber_32 : decode cX8_readsNumber 32 = .ok (.isub, 1) := by decide +kernel
theorem dX8_readsNumber_33 : decode cX8_readsNumber 33 = .ok (.goto 31, 3) := by decide +kernel
theorem dX8_readsNumber_36 : decode cX8_readsNumber 36 = .ok (.bipush 10, 2) := by decide +kernel
theorem dX8_readsNumber_38 : decode cX8_readsNumber 38 = .ok (.aload_n 0, 1) := by decide +kernel
theorem dX8_readsNumber_39 : decode cX8_readsNumber 39 = .ok (.aload_n 0, 1) := by decide +kernel
theorem dX8_readsNumber_40 : decode cX8_readsNumber 40 = .ok (.getfield 66, 3) := by decide +kernel
theorem dX8_readsNumber_43 : decode cX8_readsNumber 43 = .ok (.invokevirtual 69, 3) := by decide +kernel
theorem dX8_readsNumber_46 : decode cX8_readsNumber 46 = .ok (.bipush 48, 2) := by decide +kernel
theorem dX8_readsNumber_48 : decode cX8_readsNumber 48 = .ok (.isub, 1) := by decide +kernel
theorem dX8_readsNumber_49 : decode cX8_readsNumber 49 = .ok (.imul, 1) := by decide +kernel
theorem dX8_readsNumber_50 : decode cX8_readsNumber 50 = .ok (.aload_n 0, 1) := by decide +kernel
theorem dX8_readsNumber_51 : decode cX8_readsNumber 51 = .ok (.aload_n 0, 1) := by decide +kernel
theorem dX8_readsNumber_52 : decode cX8_readsNumber 52 = .ok (.getfield 66, 3) := by decide +kernel
theorem dX8_readsNumber_55 : decode cX8_readsNumber 55 = .ok (.iconst 1, 1) := by decide +kernel
theorem dX8_readsNumber_56 : decode cX8_readsNumber 56 = .ok (.iadd, 1) := by decide +kernel
theorem dX8_readsNumber_57 : decode cX8_readsNumber 57 = .ok (.invokevirtual 69, 3) := by decide +kernel
theorem dX8_readsNumber_60 : decode cX8_readsNumber 60 = .ok (.iadd, 1) := by decide +kernel
theorem dX8_readsNumber_61 : decode cX8_readsNumber 61 = .ok (.bipush 48, 2) := by decide +kernel
theorem dX8_readsNumber_63 : decode cX8_readsNumber 63 = .ok (.isub, 1) := by decide +kernel
theorem dX8_readsNumber_64 : decode cX8_readsNumber 64 = .ok (.istore 5, 2) := by decide +kernel
theorem dX8_readsNumber_66 : decode cX8_readsNumber 66 = .ok (.aload_n 0, 1) := by decide +kernel
theorem dX8_readsNumber_67 : decode cX8_readsNumber 67 = .ok (.aload_n 0, 1) := by decide +kernel
theorem dX8_readsNumber_68 : decode cX8_readsNumber 68 = .ok (.getfield 77, 3) := by decide +kernel
theorem dX8_readsNumber_71 : decode cX8_readsNumber 71 = .ok (.iconst 5, 1) := by decide +kernel
theorem dX8_readsNumber_72 : decode cX8_readsNumber 72 = .ok (.if_icmp .ne 46, 3) := by decide +kernel
theorem dX8_readsNumber_75 : decode cX8_readsNumber 75 = .ok (.iload 4, 2) := by decide +kernel
theorem dX8_readsNumber_77 : decode cX8_readsNumber 77 = .ok (.iconst 1, 1) := by decide +kernel
theorem dX8_readsNumber_78 : decode cX8_readsNumber 78 = .ok (.iconst 2, 1) := by decide +kernel
theorem dX8_readsNumber_79 : decode cX8_readsNumber 79 = .ok (.invokestatic 56, 3) := by decide +kernel
theorem dX8_readsNumber_82 : decode cX8_readsNumber 82 = .ok (.ifCond .eq 36, 3) := by decide +kernel
theorem dX8_readsNumber_85 : decode cX8_readsNumber 85 = .ok (.iload 4, 2) := by decide +kernel
theorem dX8_readsNumber_87 : decode cX8_readsNumber 87 = .ok (.iconst 1, 1) := by decide +kernel
theorem dX8_readsNumber_88 : decode cX8_readsNumber 88 = .ok (.if_icmp .eq 16, 3) := by decide +kernel
theorem dX8_readsNumber_91 : decode cX8_readsNumber 91 = .ok (.aload_n 0, 1) := by decide +kernel
theorem dX8_readsNumber_92 : decode cX8_readsNumber 92 = .ok (.aload_n 0, 1) := by decide +kernel
theorem dX8_readsNumber_93 : decode cX8_readsNumber 93 = .ok (.getfield 66, 3) := by decide +kernel
theorem dX8_readsNumber_96 : decode cX8_readsNumber 96 = .ok (.invokevirtual 69, 3) := by decide +kernel
theorem dX8_readsNumber_99 : decode cX8_readsNumber 99 = .ok (.bipush 48, 2) := by decide +kernel
theorem dX8_readsNumber_101 : decode cX8_readsNumber 101 = .ok (.if_icmp .eq 17, 3) := by decide +kernel
theorem dX8_readsNumber_104 : decode cX8_readsNumber 104 = .ok (.iload 5, 2) := by decide +kernel
theorem dX8_readsNumber_106 : decode cX8_readsNumber 106 = .ok (.iload_n 2, 1) := by decide +kernel
theorem dX8_readsNumber_107 : decode cX8_readsNumber 107 = .ok (.iload_n 3, 1) := by decide +kernel
theorem dX8_readsNumber_108 : decode cX8_readsNumber 108 = .ok (.invokestatic 56, 3) := by decide +kernel
theorem dX8_readsNumber_111 : decode cX8_readsNumber 111 = .ok (.ifCond .eq 7, 3) := by decide +kernel
theorem dX8_readsNumber_114 : decode cX8_readsNumber 114 = .ok (.iconst 1, 1) := by decide +kernel
theorem dX8_readsNumber_115 : decode cX8_readsNumber 115 = .ok (.goto 4, 3) := by decide +kernel
theorem dX8_readsNumber_118 : decode cX8_readsNumber 118 = .ok (.iconst 0, 1) := by decide +kernel
theorem dX8_readsNumber_119 : decode cX8_readsNumber 119 = .ok (.invokevirtual 90, 3) := by decide +kernel
theorem dX8_readsNumber_122 : decode cX8_readsNumber 122 = .ok (.aload_n 0, 1) := by decide +kernel
theorem dX8_readsNumber_123 : decode cX8_readsNumber 123 = .ok (.getfield 13, 3) := by decide +kernel
theorem dX8_readsNumber_126 : decode cX8_readsNumber 126 = .ok (.iload_n 1, 1) := by decide +kernel
theorem dX8_readsNumber_127 : decode cX8_readsNumber 127 = .ok (.iload 5, 2) := by decide +kernel
theorem dX8_readsNumber_129 : decode cX8_readsNumber 129 = .ok (.iastore, 1) := by decide +kernel
theorem dX8_readsNumber_130 : decode cX8_readsNumber 130 = .ok (.return_, 1) := by decide +kernel
theorem dX8_reads_0 : decode cX8_reads 0 = .ok (.aload_n 0, 1) := by decide +kernel
theorem dX8_reads_1 : decode cX8_reads 1 = .ok (.getfield 13, 3) := by decide +kernel
theorem dX8_reads_4 : decode cX8_reads 4 = .ok (.invokestatic 48, 3) := by decide +kernel
theorem dX8_reads_7 : decode cX8_reads 7 = .ok (.aload_n 0, 1) := by decide +kernel
theorem dX8_reads_8 : decode cX8_reads 8 = .ok (.bipush (-9), 2) := by decide +kernel
theorem dX8_reads_10 : decode cX8_reads 10 = .ok (.putfield 84, 3) := by decide +kernel
theorem dX8_reads_13 : decode cX8_reads 13 = .ok (.aload_n 0, 1) := by decide +kernel
theorem dX8_reads_14 : decode cX8_reads 14 = .ok (.iconst 0, 1) := by decide +kernel
theorem dX8_reads_15 : decode cX8_reads 15 = .ok (.putfield 63, 3) := by decide +kernel
theorem dX8_reads_18 : decode cX8_reads 18 = .ok (.aload_n 0, 1) := by decide +kernel
theorem dX8_reads_19 : decode cX8_reads 19 = .ok (.invokevirtual 87, 3) := by decide +kernel
theorem dX8_reads_22 : decode cX8_reads 22 = .ok (.iconst 0, 1) := by decide +kernel
theorem dX8_reads_23 : decode cX8_reads 23 = .ok (.istore_n 1, 1) := by decide +kernel
theorem dX8_reads_24 : decode cX8_reads 24 = .ok (.aload_n 0, 1) := by decide +kernel
theorem dX8_reads_25 : decode cX8_reads 25 = .ok (.getfield 84, 3) := by decide +kernel
theorem dX8_reads_28 : decode cX8_reads 28 = .ok (.bipush (-9), 2) := by decide +kernel
theorem dX8_reads_30 : decode cX8_reads 30 = .ok (.if_icmp .ne 115, 3) := by decide +kernel
theorem dX8_reads_33 : decode cX8_reads 33 = .ok (.aload_n 0, 1) := by decide +kernel
theorem dX8_reads_34 : decode cX8_reads 34 = .ok (.getfield 77, 3) := by decide +kernel
theorem dX8_reads_37 : decode cX8_reads 37 = .ok (.ifCond .eq 108, 3) := by decide +kernel
theorem dX8_reads_40 : decode cX8_reads 40 = .ok (.aload_n 0, 1) := by decide +kernel
theorem dX8_reads_41 : decode cX8_reads 41 = .ok (.getfield 77, 3) := by decide +kernel
theorem dX8_reads_44 : decode cX8_reads 44 = .ok (.tableswitch 72 1 4 #[32, 39, 50, 61], 32) := by decide +kernel
theorem dX8_reads_76 : decode cX8_reads 76 = .ok (.aload_n 0, 1) := by decide +kernel
theorem dX8_reads_77 : decode cX8_reads 77 = .ok (.invokevirtual 94, 3) := by decide +kernel
theorem dX8_reads_80 : decode cX8_reads 80 = .ok (.goto 41, 3) := by decide +kernel
theorem dX8_reads_83 : decode cX8_reads 83 = .ok (.aload_n 0, 1) := by decide +kernel
theorem dX8_reads_84 : decode cX8_reads 84 = .ok (.iconst 2, 1) := by decide +kernel
theorem dX8_reads_85 : decode cX8_reads 85 = .ok (.iconst 1, 1) := by decide +kernel
theorem dX8_reads_86 : decode cX8_reads 86 = .ok (.bipush 9, 2) := by decide +kernel
theorem dX8_reads_88 : decode cX8_reads 88 = .ok (.invokevirtual 97, 3) := by decide +kernel
theorem dX8_reads_91 : decode cX8_reads 91 = .ok (.goto 30, 3) := by decide +kernel
theorem dX8_reads_94 : decode cX8_reads 94 = .ok (.aload_n 0, 1) := by decide +kernel
theorem dX8_reads_95 : decode cX8_reads 95 = .ok (.iconst 3, 1) := by decide +kernel
theorem dX8_reads_96 : decode cX8_reads 96 = .ok (.iconst 0, 1) := by decide +kernel
theorem dX8_reads_97 : decode cX8_reads 97 = .ok (.bipush 20, 2) := by decide +kernel
theorem dX8_reads_99 : decode cX8_reads 99 = .ok (.invokevirtual 97, 3) := by decide +kernel
theorem dX8_reads_102 : decode cX8_reads 102 = .ok (.goto 19, 3) := by decide +kernel
theorem dX8_reads_105 : decode cX8_reads 105 = .ok (.aload_n 0, 1) := by decide +kernel
theorem dX8_reads_106 : decode cX8_reads 106 = .ok (.iconst 4, 1) := by decide +kernel
theorem dX8_reads_107 : decode cX8_reads 107 = .ok (.iconst 1, 1) := by decide +kernel
theorem dX8_reads_108 : decode cX8_reads 108 = .ok (.bipush 8, 2) := by decide +kernel
theorem dX8_reads_110 : decode cX8_reads 110 = .ok (.invokevirtual 97, 3) := by decide +kernel
theorem dX8_reads_113 : decode cX8_reads 113 = .ok (.goto 8, 3) := by decide +kernel
theorem dX8_reads_116 : decode cX8_reads 116 = .ok (.aload_n 0, 1) := by decide +kernel
theorem dX8_reads_117 : decode cX8_reads 117 = .ok (.iconst 0, 1) := by decide +kernel
theorem dX8_reads_118 : decode cX8_reads 118 = .ok (.invokevirtual 90, 3) := by decide +kernel
theorem dX8_reads_121 : decode cX8_reads 121 = .ok (.aload_n 0, 1) := by decide +kernel
theorem dX8_reads_122 : decode cX8_reads 122 = .ok (.aload_n 0, 1) := by decide +kernel
theorem dX8_reads_123 : decode cX8_reads 123 = .ok (.getfield 77, 3) := by decide +kernel
theorem dX8_reads_126 : decode cX8_reads 126 = .ok (.bipush 6, 2) := by decide +kernel
theorem dX8_reads_128 : decode cX8_reads 128 = .ok (.if_icmp .ne 7, 3) := by decide +kernel
theorem dX8_reads_131 : decode cX8_reads 131 = .ok (.iconst 1, 1) := by decide +kernel
theorem dX8_reads_132 : decode cX8_reads 132 = .ok (.goto 4, 3) := by decide +kernel
theorem dX8_reads_135 : decode cX8_reads 135 = .ok (.iconst 0, 1) := by decide +kernel
theorem dX8_reads_136 : decode cX8_reads 136 = .ok (.invokevirtual 90, 3) := by decide +kernel
theorem dX8_reads_139 : decode cX8_reads 139 = .ok (.iinc 1 1, 3) := by decide +kernel
theorem dX8_reads_142 : decode cX8_reads 142 = .ok (.goto (-118), 3) := by decide +kernel
theorem dX8_reads_145 : decode cX8_reads 145 = .ok (.aload_n 0, 1) := by decide +kernel
theorem dX8_reads_146 : decode cX8_reads 146 = .ok (.aload_n 0, 1) := by decide +kernel
theorem dX8_reads_147 : decode cX8_reads 147 = .ok (.getfield 13, 3) := by decide +kernel
theorem dX8_reads_150 : decode cX8_reads 150 = .ok (.iconst 0, 1) := by decide +kernel
theorem dX8_reads_151 : decode cX8_reads 151 = .ok (.iaload, 1) := by decide +kernel
theorem dX8_reads_152 : decode cX8_reads 152 = .ok (.ifCond .le 7, 3) := by decide +kernel
theorem dX8_reads_155 : decode cX8_reads 155 = .ok (.iconst 1, 1) := by decide +kernel
theorem dX8_reads_156 : decode cX8_reads 156 = .ok (.goto 4, 3) := by decide +kernel
theorem dX8_reads_159 : decode cX8_reads 159 = .ok (.iconst 0, 1) := by decide +kernel
theorem dX8_reads_160 : decode cX8_reads 160 = .ok (.invokevirtual 90, 3) := by decide +kernel
theorem dX8_reads_163 : decode cX8_reads 163 = .ok (.iload_n 1, 1) := by decide +kernel
theorem dX8_reads_164 : decode cX8_reads 164 = .ok (.ireturn, 1) := by decide +kernel
theorem dX8_tells_0 : decode cX8_tells 0 = .ok (.aload_n 0, 1) := by decide +kernel
theorem dX8_tells_1 : decode cX8_tells 1 = .ok (.iconst 0, 1) := by decide +kernel
theorem dX8_tells_2 : decode cX8_tells 2 = .ok (.putfield 52, 3) := by decide +kernel
theorem dX8_tells_5 : decode cX8_tells 5 = .ok (.aload_n 0, 1) := by decide +kernel
theorem dX8_tells_6 : decode cX8_tells 6 = .ok (.invokevirtual 101, 3) := by decide +kernel
theorem dX8_tells_9 : decode cX8_tells 9 = .ok (.istore_n 1, 1) := by decide +kernel
theorem dX8_tells_10 : decode cX8_tells 10 = .ok (.aload_n 0, 1) := by decide +kernel
theorem dX8_tells_11 : decode cX8_tells 11 = .ok (.getfield 84, 3) := by decide +kernel
theorem dX8_tells_14 : decode cX8_tells 14 = .ok (.bipush (-9), 2) := by decide +kernel
theorem dX8_tells_16 : decode cX8_tells 16 = .ok (.if_icmp .eq 11, 3) := by decide +kernel
theorem dX8_tells_19 : decode cX8_tells 19 = .ok (.bipush (-10), 2) := by decide +kernel
theorem dX8_tells_21 : decode cX8_tells 21 = .ok (.aload_n 0, 1) := by decide +kernel
theorem dX8_tells_22 : decode cX8_tells 22 = .ok (.getfield 84, 3) := by decide +kernel
theorem dX8_tells_25 : decode cX8_tells 25 = .ok (.isub, 1) := by decide +kernel
theorem dX8_tells_26 : decode cX8_tells 26 = .ok (.ireturn, 1) := by decide +kernel
theorem dX8_tells_27 : decode cX8_tells 27 = .ok (.aload_n 0, 1) := by decide +kernel
theorem dX8_tells_28 : decode cX8_tells 28 = .ok (.invokevirtual 104, 3) := by decide +kernel
theorem dX8_tells_31 : decode cX8_tells 31 = .ok (.iconst 0, 1) := by decide +kernel
theorem dX8_tells_32 : decode cX8_tells 32 = .ok (.istore_n 2, 1) := by decide +kernel
theorem dX8_tells_33 : decode cX8_tells 33 = .ok (.iload_n 2, 1) := by decide +kernel
theorem dX8_tells_34 : decode cX8_tells 34 = .ok (.bipush 101, 2) := by decide +kernel
theorem dX8_tells_36 : decode cX8_tells 36 = .ok (.if_icmp .ge 21, 3) := by decide +kernel
theorem dX8_tells_39 : decode cX8_tells 39 = .ok (.aload_n 0, 1) := by decide +kernel
theorem dX8_tells_40 : decode cX8_tells 40 = .ok (.getfield 7, 3) := by decide +kernel
theorem dX8_tells_43 : decode cX8_tells 43 = .ok (.iload_n 2, 1) := by decide +kernel
theorem dX8_tells_44 : decode cX8_tells 44 = .ok (.aload_n 0, 1) := by decide +kernel
theorem dX8_tells_45 : decode cX8_tells 45 = .ok (.getfield 13, 3) := by decide +kernel
theorem dX8_tells_48 : decode cX8_tells 48 = .ok (.iload_n 2, 1) := by decide +kernel
theorem dX8_tells_49 : decode cX8_tells 49 = .ok (.iaload, 1) := by decide +kernel
theorem dX8_tells_50 : decode cX8_tells 50 = .ok (.iastore, 1) := by decide +kernel
theorem dX8_tells_51 : decode cX8_tells 51 = .ok (.iinc 2 1, 3) := by decide +kernel
theorem dX8_tells_54 : decode cX8_tells 54 = .ok (.goto (-21), 3) := by decide +kernel
theorem dX8_tells_57 : decode cX8_tells 57 = .ok (.aload_n 0, 1) := by decide +kernel
theorem dX8_tells_58 : decode cX8_tells 58 = .ok (.iconst 0, 1) := by decide +kernel
theorem dX8_tells_59 : decode cX8_tells 59 = .ok (.putfield 60, 3) := by decide +kernel
theorem dX8_tells_62 : decode cX8_tells 62 = .ok (.iload_n 1, 1) := by decide +kernel
theorem dX8_tells_63 : decode cX8_tells 63 = .ok (.ireturn, 1) := by decide +kernel
theorem dX8_notes_0 : decode cX8_notes 0 = .ok (.aload_n 0, 1) := by decide +kernel
theorem dX8_notes_1 : decode cX8_notes 1 = .ok (.getfield 107, 3) := by decide +kernel
theorem dX8_notes_4 : decode cX8_notes 4 = .ok (.bipush 6, 2) := by decide +kernel
theorem dX8_notes_6 : decode cX8_notes 6 = .ok (.if_icmp .ne 43, 3) := by decide +kernel
theorem dX8_notes_9 : decode cX8_notes 9 = .ok (.iconst 0, 1) := by decide +kernel
theorem dX8_notes_10 : decode cX8_notes 10 = .ok (.istore_n 1, 1) := by decide +kernel
theorem dX8_notes_11 : decode cX8_notes 11 = .ok (.iload_n 1, 1) := by decide +kernel
theorem dX8_notes_12 : decode cX8_notes 12 = .ok (.sipush 505, 3) := by decide +kernel
