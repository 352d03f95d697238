theorem dX0_init_0 : decode cX0_init 0 = .ok (.aload_n 0, 1) := by decide +kernel
theorem dX0_init_1 : decode cX0_init 1 = .ok (.invokespecial 3, 3) := by decide +kernel
theorem dX0_init_4 : decode cX0_init 4 = .ok (.aload_n 0, 1) := by decide +kernel
theorem dX0_init_5 : decode cX0_init 5 = .ok (.bipush 6, 2) := by decide +kernel
theorem dX0_init_7 : decode cX0_init 7 = .ok (.anewarray 9, 3) := by decide +kernel
theorem dX0_init_10 : decode cX0_init 10 = .ok (.putfield 11, 3) := by decide +kernel
theorem dX0_init_13 : decode cX0_init 13 = .ok (.iconst 0, 1) := by decide +kernel
theorem dX0_init_14 : decode cX0_init 14 = .ok (.istore_n 1, 1) := by decide +kernel
theorem dX0_init_15 : decode cX0_init 15 = .ok (.iload_n 1, 1) := by decide +kernel
theorem dX0_init_16 : decode cX0_init 16 = .ok (.bipush 6, 2) := by decide +kernel
theorem dX0_init_18 : decode cX0_init 18 = .ok (.if_icmp .ge 22, 3) := by decide +kernel
theorem dX0_init_21 : decode cX0_init 21 = .ok (.aload_n 0, 1) := by decide +kernel
theorem dX0_init_22 : decode cX0_init 22 = .ok (.getfield 11, 3) := by decide +kernel
theorem dX0_init_25 : decode cX0_init 25 = .ok (.iload_n 1, 1) := by decide +kernel
theorem dX0_init_26 : decode cX0_init 26 = .ok (.new 9, 3) := by decide +kernel
theorem dX0_init_29 : decode cX0_init 29 = .ok (.dup, 1) := by decide +kernel
theorem dX0_init_30 : decode cX0_init 30 = .ok (.invokespecial 17, 3) := by decide +kernel
theorem dX0_init_33 : decode cX0_init 33 = .ok (.aastore, 1) := by decide +kernel
theorem dX0_init_34 : decode cX0_init 34 = .ok (.iinc 1 1, 3) := by decide +kernel
theorem dX0_init_37 : decode cX0_init 37 = .ok (.goto (-22), 3) := by decide +kernel
theorem dX0_init_40 : decode cX0_init 40 = .ok (.return_, 1) := by decide +kernel
theorem dX0_remember_0 : decode cX0_remember 0 = .ok (.aload_n 0, 1) := by decide +kernel
theorem dX0_remember_1 : decode cX0_remember 1 = .ok (.getfield 18, 3) := by decide +kernel
theorem dX0_remember_4 : decode cX0_remember 4 = .ok (.bipush 6, 2) := by decide +kernel
theorem dX0_remember_6 : decode cX0_remember 6 = .ok (.if_icmp .lt 7, 3) := by decide +kernel
theorem dX0_remember_9 : decode cX0_remember 9 = .ok (.aload_n 0, 1) := by decide +kernel
theorem dX0_remember_10 : decode cX0_remember 10 = .ok (.invokevirtual 22, 3) := by decide +kernel
theorem dX0_remember_13 : decode cX0_remember 13 = .ok (.aload_n 0, 1) := by decide +kernel
theorem dX0_remember_14 : decode cX0_remember 14 = .ok (.getfield 11, 3) := by decide +kernel
theorem dX0_remember_17 : decode cX0_remember 17 = .ok (.aload_n 0, 1) := by decide +kernel
theorem dX0_remember_18 : decode cX0_remember 18 = .ok (.getfield 18, 3) := by decide +kernel
theorem dX0_remember_21 : decode cX0_remember 21 = .ok (.aaload, 1) := by decide +kernel
theorem dX0_remember_22 : decode cX0_remember 22 = .ok (.aload_n 1, 1) := by decide +kernel
theorem dX0_remember_23 : decode cX0_remember 23 = .ok (.invokevirtual 25, 3) := by decide +kernel
theorem dX0_remember_26 : decode cX0_remember 26 = .ok (.aload_n 0, 1) := by decide +kernel
theorem dX0_remember_27 : decode cX0_remember 27 = .ok (.dup, 1) := by decide +kernel
theorem dX0_remember_28 : decode cX0_remember 28 = .ok (.getfield 18, 3) := by decide +kernel
theorem dX0_remember_31 : decode cX0_remember 31 = .ok (.iconst 1, 1) := by decide +kernel
theorem dX0_remember_32 : decode cX0_remember 32 = .ok (.iadd, 1) := by decide +kernel
theorem dX0_remember_33 : decode cX0_remember 33 = .ok (.putfield 18, 3) := by decide +kernel
theorem dX0_remember_36 : decode cX0_remember 36 = .ok (.return_, 1) := by decide +kernel
theorem dX0_giveLatest_0 : decode cX0_giveLatest 0 = .ok (.aload_n 0, 1) := by decide +kernel
theorem dX0_giveLatest_1 : decode cX0_giveLatest 1 = .ok (.getfield 18, 3) := by decide +kernel
theorem dX0_giveLatest_4 : decode cX0_giveLatest 4 = .ok (.ifCond .le 26, 3) := by decide +kernel
theorem dX0_giveLatest_7 : decode cX0_giveLatest 7 = .ok (.aload_n 0, 1) := by decide +kernel
theorem dX0_giveLatest_8 : decode cX0_giveLatest 8 = .ok (.dup, 1) := by decide +kernel
theorem dX0_giveLatest_9 : decode cX0_giveLatest 9 = .ok (.getfield 18, 3) := by decide +kernel
theorem dX0_giveLatest_12 : decode cX0_giveLatest 12 = .ok (.iconst 1, 1) := by decide +kernel
theorem dX0_giveLatest_13 : decode cX0_giveLatest 13 = .ok (.isub, 1) := by decide +kernel
theorem dX0_giveLatest_14 : decode cX0_giveLatest 14 = .ok (.putfield 18, 3) := by decide +kernel
theorem dX0_giveLatest_17 : decode cX0_giveLatest 17 = .ok (.aload_n 1, 1) := by decide +kernel
theorem dX0_giveLatest_18 : decode cX0_giveLatest 18 = .ok (.aload_n 0, 1) := by decide +kernel
theorem dX0_giveLatest_19 : decode cX0_giveLatest 19 = .ok (.getfield 11, 3) := by decide +kernel
theorem dX0_giveLatest_22 : decode cX0_giveLatest 22 = .ok (.aload_n 0, 1) := by decide +kernel
theorem dX0_giveLatest_23 : decode cX0_giveLatest 23 = .ok (.getfield 18, 3) := by decide +kernel
theorem dX0_giveLatest_26 : decode cX0_giveLatest 26 = .ok (.aaload, 1) := by decide +kernel
theorem dX0_giveLatest_27 : decode cX0_giveLatest 27 = .ok (.invokevirtual 25, 3) := by decide +kernel
theorem dX0_giveLatest_30 : decode cX0_giveLatest 30 = .ok (.return_, 1) := by decide +kernel
theorem dX0_loseOldest_0 : decode cX0_loseOldest 0 = .ok (.aload_n 0, 1) := by decide +kernel
theorem dX0_loseOldest_1 : decode cX0_loseOldest 1 = .ok (.getfield 11, 3) := by decide +kernel
theorem dX0_loseOldest_4 : decode cX0_loseOldest 4 = .ok (.iconst 0, 1) := by decide +kernel
theorem dX0_loseOldest_5 : decode cX0_loseOldest 5 = .ok (.aaload, 1) := by decide +kernel
theorem dX0_loseOldest_6 : decode cX0_loseOldest 6 = .ok (.astore_n 1, 1) := by decide +kernel
theorem dX0_loseOldest_7 : decode cX0_loseOldest 7 = .ok (.iconst 1, 1) := by decide +kernel
theorem dX0_loseOldest_8 : decode cX0_loseOldest 8 = .ok (.istore_n 2, 1) := by decide +kernel
theorem dX0_loseOldest_9 : decode cX0_loseOldest 9 = .ok (.iload_n 2, 1) := by decide +kernel
theorem dX0_loseOldest_10 : decode cX0_loseOldest 10 = .ok (.bipush 6, 2) := by decide +kernel
theorem dX0_loseOldest_12 : decode cX0_loseOldest 12 = .ok (.if_icmp .ge 23, 3) := by decide +kernel
theorem dX0_loseOldest_15 : decode cX0_loseOldest 15 = .ok (.aload_n 0, 1) := by decide +kernel
theorem dX0_loseOldest_16 : decode cX0_loseOldest 16 = .ok (.getfield 11, 3) := by decide +kernel
theorem dX0_loseOldest_19 : decode cX0_loseOldest 19 = .ok (.iload_n 2, 1) := by decide +kernel
theorem dX0_loseOldest_20 : decode cX0_loseOldest 20 = .ok (.iconst 1, 1) := by decide +kernel
theorem dX0_loseOldest_21 : decode cX0_loseOldest 21 = .ok (.isub, 1) := by decide +kernel
theorem dX0_loseOldest_22 : decode cX0_loseOldest 22 = .ok (.aload_n 0, 1) := by decide +kernel
theorem dX0_loseOldest_23 : decode cX0_loseOldest 23 = .ok (.getfield 11, 3) := by decide +kernel
theorem dX0_loseOldest_26 : decode cX0_loseOldest 26 = .ok (.iload_n 2, 1) := by decide +kernel
theorem dX0_loseOldest_27 : decode cX0_loseOldest 27 = .ok (.aaload, 1) := by decide +kernel
theorem dX0_loseOldest_28 : decode cX0_loseOldest 28 = .ok (.aastore, 1) := by decide +kernel
theorem dX0_loseOldest_29 : decode cX0_loseOldest 29 = .ok (.iinc 2 1, 3) := by decide +kernel
theorem dX0_loseOldest_32 : decode cX0_loseOldest 32 = .ok (.goto (-23), 3) := by decide +kernel
theorem dX0_loseOldest_35 : decode cX0_loseOldest 35 = .ok (.aload_n 0, 1) := by decide +kernel
theorem dX0_loseOldest_36 : decode cX0_loseOldest 36 = .ok (.getfield 11, 3) := by decide +kernel
theorem dX0_loseOldest_39 : decode cX0_loseOldest 39 = .ok (.iconst 5, 1) := by decide +kernel
theorem dX0_loseOldest_40 : decode cX0_loseOldest 40 = .ok (.aload_n 1, 1) := by decide +kernel
theorem dX0_loseOldest_41 : decode cX0_loseOldest 41 = .ok (.aastore, 1) := by decide +kernel
theorem dX0_loseOldest_42 : decode cX0_loseOldest 42 = .ok (.aload_n 0, 1) := by decide +kernel
theorem dX0_loseOldest_43 : decode cX0_loseOldest 43 = .ok (.iconst 5, 1) := by decide +kernel
theorem dX0_loseOldest_44 : decode cX0_loseOldest 44 = .ok (.putfield 18, 3) := by decide +kernel
theorem dX0_loseOldest_47 : decode cX0_loseOldest 47 = .ok (.return_, 1) := by decide +kernel
theorem dX1_init_0 : decode cX1_init 0 = .ok (.aload_n 0, 1) := by decide +kernel
theorem dX1_init_1 : decode cX1_init 1 = .ok (.invokespecial 3, 3) := by decide +kernel
theorem dX1_init_4 : decode cX1_init 4 = .ok (.aload_n 0, 1) := by decide +kernel
theorem dX1_init_5 : decode cX1_init 5 = .ok (.bipush 6, 2) := by decide +kernel
theorem dX1_init_7 : decode cX1_init 7 = .ok (.newarray .int, 2) := by decide +kernel
theorem dX1_init_9 : decode cX1_init 9 = .ok (.putfield 9, 3) := by decide +kernel
theorem dX1_init_12 : decode cX1_init 12 = .ok (.aload_n 0, 1) := by decide +kernel
theorem dX1_init_13 : decode cX1_init 13 = .ok (.bipush 6, 2) := by decide +kernel
theorem dX1_init_15 : decode cX1_init 15 = .ok (.newarray .int, 2) := by decide +kernel
theorem dX1_init_17 : decode cX1_init 17 = .ok (.putfield 15, 3) := by decide +kernel
theorem dX1_init_20 : decode cX1_init 20 = .ok (.aload_n 0, 1) := by decide +kernel
theorem dX1_init_21 : decode cX1_init 21 = .ok (.bipush 6, 2) := by decide +kernel
theorem dX1_init_23 : decode cX1_init 23 = .ok (.newarray .int, 2) := by decide +kernel
theorem dX1_init_25 : decode cX1_init 25 = .ok (.putfield 18, 3) := by decide +kernel
theorem dX1_init_28 : decode cX1_init 28 = .ok (.aload_n 0, 1) := by decide +kernel
theorem dX1_init_29 : decode cX1_init 29 = .ok (.bipush 49, 2) := by decide +kernel
theorem dX1_init_31 : decode cX1_init 31 = .ok (.newarray .int, 2) := by decide +kernel
theorem dX1_init_33 : decode cX1_init 33 = .ok (.putfield 21, 3) := by decide +kernel
theorem dX1_init_36 : decode cX1_init 36 = .ok (.return_, 1) := by decide +kernel
theorem dX1_join_0 : decode cX1_join 0 = .ok (.aload_n 0, 1) := by decide +kernel
theorem dX1_join_1 : decode cX1_join 1 = .ok (.iload_n 3, 1) := by decide +kernel
theorem dX1_join_2 : decode cX1_join 2 = .ok (.putfield 24, 3) := by decide +kernel
theorem dX1_join_5 : decode cX1_join 5 = .ok (.aload_n 0, 1) := by decide +kernel
theorem dX1_join_6 : decode cX1_join 6 = .ok (.aload_n 1, 1) := by decide +kernel
theorem dX1_join_7 : decode cX1_join 7 = .ok (.iload_n 2, 1) := by decide +kernel
theorem dX1_join_8 : decode cX1_join 8 = .ok (.aload_n 0, 1) := by decide +kernel
theorem dX1_join_9 : decode cX1_join 9 = .ok (.getfield 15, 3) := by decide +kernel
theorem dX1_join_12 : decode cX1_join 12 = .ok (.invokestatic 28, 3) := by decide +kernel
theorem dX1_join_15 : decode cX1_join 15 = .ok (.putfield 32, 3) := by decide +kernel
theorem dX1_join_18 : decode cX1_join 18 = .ok (.aload_n 0, 1) := by decide +kernel
theorem dX1_join_19 : decode cX1_join 19 = .ok (.aload_n 1, 1) := by decide +kernel
theorem dX1_join_20 : decode cX1_join 20 = .ok (.iload_n 2, 1) := by decide +kernel
theorem dX1_join_21 : decode cX1_join 21 = .ok (.iconst 1, 1) := by decide +kernel
theorem dX1_join_22 : decode cX1_join 22 = .ok (.iadd, 1) := by decide +kernel
theorem dX1_join_23 : decode cX1_join 23 = .ok (.aload_n 0, 1) := by decide +kernel
theorem dX1_join_24 : decode cX1_join 24 = .ok (.getfield 18, 3) := by decide +kernel
theorem dX1_join_27 : decode cX1_join 27 = .ok (.invokestatic 28, 3) := by decide +kernel
theorem dX1_join_30 : decode cX1_join 30 = .ok (.putfield 35, 3) := by decide +kernel
theorem dX1_join_33 : decode cX1_join 33 = .ok (.aload_n 0, 1) := by decide +kernel
theorem dX1_join_34 : decode cX1_join 34 = .ok (.invokevirtual 38, 3) := by decide +kernel
theorem dX1_join_37 : decode cX1_join 37 = .ok (.aload_n 0, 1) := by decide +kernel
theorem dX1_join_38 : decode cX1_join 38 = .ok (.invokevirtual 41, 3) := by decide +kernel
theorem dX1_join_41 : decode cX1_join 41 = .ok (.ireturn, 1) := by decide +kernel
theorem dX1_copyPitches_0 : decode cX1_copyPitches 0 = .ok (.iload_n 1, 1) := by decide +kernel
theorem dX1_copyPitches_1 : decode cX1_copyPitches 1 = .ok (.ifCond .lt 9, 3) := by decide +kernel
theorem dX1_copyPitches_4 : decode cX1_copyPitches 4 = .ok (.iload_n 1, 1) := by decide +kernel
theorem dX1_copyPitches_5 : decode cX1_copyPitches 5 = .ok (.bipush 8, 2) := by decide +kernel
theorem dX1_copyPitches_7 : decode cX1_copyPitches 7 = .ok (.if_icmp .lt 5, 3) := by decide +kernel
theorem dX1_copyPitches_10 : decode cX1_copyPitches 10 = .ok (.iconst 0, 1) := by decide +kernel
theorem dX1_copyPitches_11 : decode cX1_copyPitches 11 = .ok (.ireturn, 1) := by decide +kernel
theorem dX1_copyPitches_12 : decode cX1_copyPitches 12 = .ok (.aload_n 0, 1) := by decide +kernel
theorem dX1_copyPitches_13 : decode cX1_copyPitches 13 = .ok (.getfield 45, 3) := by decide +kernel
theorem dX1_copyPitches_16 : decode cX1_copyPitches 16 = .ok (.iload_n 1, 1) := by decide +kernel
theorem dX1_copyPitches_17 : decode cX1_copyPitches 17 = .ok (.iaload, 1) := by decide +kernel
theorem dX1_copyPitches_18 : decode cX1_copyPitches 18 = .ok (.istore_n 3, 1) := by decide +kernel
theorem dX1_copyPitches_19 : decode cX1_copyPitches 19 = .ok (.aload_n 0, 1) := by decide +kernel
theorem dX1_copyPitches_20 : decode cX1_copyPitches 20 = .ok (.getfield 50, 3) := by decide +kernel
theorem dX1_copyPitches_23 : decode cX1_copyPitches 23 = .ok (.iload_n 1, 1) := by decide +kernel
theorem dX1_copyPitches_24 : decode cX1_copyPitches 24 = .ok (.bipush 6, 2) := by decide +kernel
theorem dX1_copyPitches_26 : decode cX1_copyPitches 26 = .ok (.imul, 1) := by decide +kernel
theorem dX1_copyPitches_27 : decode cX1_copyPitches 27 = .ok (.aload_n 2, 1) := by decide +kernel
theorem dX1_copyPitches_28 : decode cX1_copyPitches 28 = .ok (.iconst 0, 1) := by decide +kernel
theorem dX1_copyPitches_29 : decode cX1_copyPitches 29 = .ok (.iload_n 3, 1) := by decide +kernel
theorem dX1_copyPitches_30 : decode cX1_copyPitches 30 = .ok (.invokestatic 53, 3) := by decide +kernel
theorem dX1_copyPitches_33 : decode cX1_copyPitches 33 = .ok (.iload_n 3, 1) := by decide +kernel
theorem dX1_copyPitches_34 : decode cX1_copyPitches 34 = .ok (.ireturn, 1) := by decide +kernel
theorem dX1_scoreAll_0 : decode cX1_scoreAll 0 = .ok (.aload_n 0, 1) := by decide +kernel
theorem dX1_scoreAll_1 : decode cX1_scoreAll 1 = .ok (.getfield 21, 3) := by decide +kernel
theorem dX1_scoreAll_4 : decode cX1_scoreAll 4 = .ok (.iconst 0, 1) := by decide +kernel
theorem dX1_scoreAll_5 : decode cX1_scoreAll 5 = .ok (.invokestatic 59, 3) := by decide +kernel
theorem dX1_scoreAll_8 : decode cX1_scoreAll 8 = .ok (.aload_n 0, 1) := by decide +kernel
theorem dX1_scoreAll_9 : decode cX1_scoreAll 9 = .ok (.getfield 32, 3) := by decide +kernel
theorem dX1_scoreAll_12 : decode cX1_scoreAll 12 = .ok (.iconst 1, 1) := by decide +kernel
theorem dX1_scoreAll_13 : decode cX1_scoreAll 13 = .ok (.isub, 1) := by decide +kernel
theorem dX1_scoreAll_14 : decode cX1_scoreAll 14 = .ok (.istore_n 1, 1) := by decide +kernel
theorem dX1_scoreAll_15 : decode cX1_scoreAll 15 = .ok (.iload_n 1, 1) := by decide +kernel
theorem dX1_scoreAll_16 : decode cX1_scoreAll 16 = .ok (.ifCond .lt 77, 3) := by decide +kernel
theorem dX1_scoreAll_19 : decode cX1_scoreAll 19 = .ok (.aload_n 0, 1) := by decide +kernel
theorem dX1_scoreAll_20 : decode cX1_scoreAll 20 = .ok (.getfield 35, 3) := by decide +kernel
theorem dX1_scoreAll_23 : decode cX1_scoreAll 23 = .ok (.iconst 1, 1) := by decide +kernel
theorem dX1_scoreAll_24 : decode cX1_scoreAll 24 = .ok (.isub, 1) := by decide +kernel
theorem dX1_scoreAll_25 : decode cX1_scoreAll 25 = .ok (.istore_n 2, 1) := by decide +kernel
theorem dX1_scoreAll_26 : decode cX1_scoreAll 26 = .ok (.iload_n 2, 1) := by decide +kernel
theorem dX1_scoreAll_27 : decode cX1_scoreAll 27 = .ok (.ifCond .lt 60, 3) := by decide +kernel
theorem dX1_scoreAll_30 : decode cX1_scoreAll 30 = .ok (.aload_n 0, 1) := by decide +kernel
theorem dX1_scoreAll_31 : decode cX1_scoreAll 31 = .ok (.getfield 21, 3) := by decide +kernel
theorem dX1_scoreAll_34 : decode cX1_scoreAll 34 = .ok (.iload_n 1, 1) := by decide +kernel
theorem dX1_scoreAll_35 : decode cX1_scoreAll 35 = .ok (.iconst 1, 1) := by decide +kernel
theorem dX1_scoreAll_36 : decode cX1_scoreAll 36 = .ok (.iadd, 1) := by decide +kernel
theorem dX1_scoreAll_37 : decode cX1_scoreAll 37 = .ok (.bipush 7, 2) := by decide +kernel
theorem dX1_scoreAll_39 : decode cX1_scoreAll 39 = .ok (.imul, 1) := by decide +kernel
theorem dX1_scoreAll_40 : decode cX1_scoreAll 40 = .ok (.iload_n 2, 1) := by decide +kernel
theorem dX1_scoreAll_41 : decode cX1_scoreAll 41 = .ok (.iadd, 1) := by decide +kernel
theorem dX1_scoreAll_42 : decode cX1_scoreAll 42 = .ok (.iaload, 1) := by decide +kernel
theorem dX1_scoreAll_43 : decode cX1_scoreAll 43 = .ok (.aload_n 0, 1) := by decide +kernel
theorem dX1_scoreAll_44 : decode cX1_scoreAll 44 = .ok (.getfield 21, 3) := by decide +kernel
theorem dX1_scoreAll_47 : decode cX1_scoreAll 47 = .ok (.iload_n 1, 1) := by decide +kernel
theorem dX1_scoreAll_48 : decode cX1_scoreAll 48 = .ok (.bipush 7, 2) := by decide +kernel
theorem dX1_scoreAll_50 : decode cX1_scoreAll 50 = .ok (.imul, 1) := by decide +kernel
theorem dX1_scoreAll_51 : decode cX1_scoreAll 51 = .ok (.iload_n 2, 1) := by decide +kernel
theorem dX1_scoreAll_52 : decode cX1_scoreAll 52 = .ok (.iadd, 1) := by decide +kernel
theorem dX1_scoreAll_53 : decode cX1_scoreAll 53 = .ok (.iconst 1, 1) := by decide +kernel
theorem dX1_scoreAll_54 : decode cX1_scoreAll 54 = .ok (.iadd, 1) := by decide +kernel
theorem dX1_scoreAll_55 : decode cX1_scoreAll 55 = .ok (.iaload, 1) := by decide +kernel
theorem dX1_scoreAll_56 : decode cX1_scoreAll 56 = .ok (.invokestatic 65, 3) := by decide +kernel
theorem dX1_scoreAll_59 : decode cX1_scoreAll 59 = .ok (.istore_n 3, 1) := by decide +kernel
theorem dX1_scoreAll_60 : decode cX1_scoreAll 60 = .ok (.aload_n 0, 1) := by decide +kernel
theorem dX1_scoreAll_61 : decode cX1_scoreAll 61 = .ok (.getfield 21, 3) := by decide +kernel
theorem dX1_scoreAll_64 : decode cX1_scoreAll 64 = .ok (.iload_n 1, 1) := by decide +kernel
theorem dX1_scoreAll_65 : decode cX1_scoreAll 65 = .ok (.bipush 7, 2) := by decide +kernel
theorem dX1_scoreAll_67 : decode cX1_scoreAll 67 = .ok (.imul, 1) := by decide +kernel
theorem dX1_scoreAll_68 : decode cX1_scoreAll 68 = .ok (.iload_n 2, 1) := by decide +kernel
theorem dX1_scoreAll_69 : decode cX1_scoreAll 69 = .ok (.iadd, 1) := by decide +kernel
theorem dX1_scoreAll_70 : decode cX1_scoreAll 70 = .ok (.iload_n 3, 1) := by decide +kernel
theorem dX1_scoreAll_71 : decode cX1_scoreAll 71 = .ok (.aload_n 0, 1) := by decide +kernel
theorem dX1_scoreAll_72 : decode cX1_scoreAll 72 = .ok (.iload_n 1, 1) := by decide +kernel
theorem dX1_scoreAll_73 : decode cX1_scoreAll 73 = .ok (.iload_n 2, 1) := by decide +kernel
theorem dX1_scoreAll_74 : decode cX1_scoreAll 74 = .ok (.invokevirtual 71, 3) := by decide +kernel
theorem dX1_scoreAll_77 : decode cX1_scoreAll 77 = .ok (.invokestatic 65, 3) := by decide +kernel
theorem dX1_scoreAll_80 : decode cX1_scoreAll 80 = .ok (.iastore, 1) := by decide +kernel
theorem dX1_scoreAll_81 : decode cX1_scoreAll 81 = .ok (.iinc 2 (-1), 3) := by decide +kernel
theorem dX1_scoreAll_84 : decode cX1_scoreAll 84 = .ok (.goto (-58), 3) := by decide +kernel
theorem dX1_scoreAll_87 : decode cX1_scoreAll 87 = .ok (.iinc 1 (-1), 3) := by decide +kernel
theorem dX1_scoreAll_90 : decode cX1_scoreAll 90 = .ok (.goto (-75), 3) := by decide +kernel
theorem dX1_scoreAll_93 : decode cX1_scoreAll 93 = .ok (.return_, 1) := by decide +kernel
theorem dX1_pairedScore_0 : decode cX1_pairedScore 0 = .ok (.aload_n 0, 1) := by decide +kernel
theorem dX1_pairedScore_1 : decode cX1_pairedScore 1 = .ok (.getfield 15, 3) := by decide +kernel
theorem dX1_pairedScore_4 : decode cX1_pairedScore 4 = .ok (.iload_n 1, 1) := by decide +kernel
theorem dX1_pairedScore_5 : decode cX1_pairedScore 5 = .ok (.iaload, 1) := by decide +kernel
theorem dX1_pairedScore_6 : decode cX1_pairedScore 6 = .ok (.aload_n 0, 1) := by decide +kernel
theorem dX1_pairedScore_7 : decode cX1_pairedScore 7 = .ok (.getfield 18, 3) := by decide +kernel
theorem dX1_pairedScore_10 : decode cX1_pairedScore 10 = .ok (.iload_n 2, 1) := by decide +kernel
theorem dX1_pairedScore_11 : decode cX1_pairedScore 11 = .ok (.iaload, 1) := by decide +kernel
theorem dX1_pairedScore_12 : decode cX1_pairedScore 12 = .ok (.isub, 1) := by decide +kernel
theorem dX1_pairedScore_13 : decode cX1_pairedScore 13 = .ok (.invokestatic 74, 3) := by decide +kernel
theorem dX1_pairedScore_16 : decode cX1_pairedScore 16 = .ok (.istore_n 3, 1) := by decide +kernel
theorem dX1_pairedScore_17 : decode cX1_pairedScore 17 = .ok (.iload_n 3, 1) := by decide +kernel
theorem dX1_pairedScore_18 : decode cX1_pairedScore 18 = .ok (.aload_n 0, 1) := by decide +kernel
theorem dX1_pairedScore_19 : decode cX1_pairedScore 19 = .ok (.getfield 24, 3) := by decide +kernel
theorem dX1_pairedScore_22 : decode cX1_pairedScore 22 = .ok (.if_icmp .le 7, 3) := by decide +kernel
theorem dX1_pairedScore_25 : decode cX1_pairedScore 25 = .ok (.iconst (-1), 1) := by decide +kernel
theorem dX1_pairedScore_26 : decode cX1_pairedScore 26 = .ok (.goto 24, 3) := by decide +kernel
theorem dX1_pairedScore_29 : decode cX1_pairedScore 29 = .ok (.sipush 1000, 3) := by decide +kernel
theorem dX1_pairedScore_32 : decode cX1_pairedScore 32 = .ok (.iload_n 3, 1) := by decide +kernel
theorem dX1_pairedScore_33 : decode cX1_pairedScore 33 = .ok (.isub, 1) := by decide +kernel
theorem dX1_pairedScore_34 : decode cX1_pairedScore 34 = .ok (.aload_n 0, 1) := by decide +kernel
theorem dX1_pairedScore_35 : decode cX1_pairedScore 35 = .ok (.getfield 21, 3) := by decide +kernel
theorem dX1_pairedScore_38 : decode cX1_pairedScore 38 = .ok (.iload_n 1, 1) := by decide +kernel
theorem dX1_pairedScore_39 : decode cX1_pairedScore 39 = .ok (.iconst 1, 1) := by decide +kernel
theorem dX1_pairedScore_40 : decode cX1_pairedScore 40 = .ok (.iadd, 1) := by decide +kernel
theorem dX1_pairedScore_41 : decode cX1_pairedScore 41 = .ok (.bipush 7, 2) := by decide +kernel
theorem dX1_pairedScore_43 : decode cX1_pairedScore 43 = .ok (.imul, 1) := by decide +kernel
theorem dX1_pairedScore_44 : decode cX1_pairedScore 44 = .ok (.iload_n 2, 1) := by decide +kernel
theorem dX1_pairedScore_45 : decode cX1_pairedScore 45 = .ok (.iadd, 1) := by decide +kernel
theorem dX1_pairedScore_46 : decode cX1_pairedScore 46 = .ok (.iconst 1, 1) := by decide +kernel
theorem dX1_pairedScore_47 : decode cX1_pairedScore 47 = .ok (.iadd, 1) := by decide +kernel
theorem dX1_pairedScore_48 : decode cX1_pairedScore 48 = .ok (.iaload, 1) := by decide +kernel
theorem dX1_pairedScore_49 : decode cX1_pairedScore 49 = .ok (.iadd, 1) := by decide +kernel
theorem dX1_pairedScore_50 : decode cX1_pairedScore 50 = .ok (.ireturn, 1) := by decide +kernel
theorem dX1_chooseMates_0 : decode cX1_chooseMates 0 = .ok (.aload_n 0, 1) := by decide +kernel
theorem dX1_chooseMates_1 : decode cX1_chooseMates 1 = .ok (.getfield 9, 3) := by decide +kernel
theorem dX1_chooseMates_4 : decode cX1_chooseMates 4 = .ok (.bipush (-9), 2) := by decide +kernel
theorem dX1_chooseMates_6 : decode cX1_chooseMates 6 = .ok (.invokestatic 59, 3) := by decide +kernel
theorem dX1_chooseMates_9 : decode cX1_chooseMates 9 = .ok (.iconst 0, 1) := by decide +kernel
theorem dX1_chooseMates_10 : decode cX1_chooseMates 10 = .ok (.istore_n 1, 1) := by decide +kernel
theorem dX1_chooseMates_11 : decode cX1_chooseMates 11 = .ok (.iconst 0, 1) := by decide +kernel
theorem dX1_chooseMates_12 : decode cX1_chooseMates 12 = .ok (.istore_n 2, 1) := by decide +kernel
theorem dX1_chooseMates_13 : decode cX1_chooseMates 13 = .ok (.iconst 0, 1) := by decide +kernel
theorem dX1_chooseMates_14 : decode cX1_chooseMates 14 = .ok (.istore_n 3, 1) := by decide +kernel
theorem dX1_chooseMates_15 : decode cX1_chooseMates 15 = .ok (.iload_n 3, 1) := by decide +kernel
theorem dX1_chooseMates_16 : decode cX1_chooseMates 16 = .ok (.aload_n 0, 1) := by decide +kernel
theorem dX1_chooseMates_17 : decode cX1_chooseMates 17 = .ok (.getfield 32, 3) := by decide +kernel
theorem dX1_chooseMates_20 : decode cX1_chooseMates 20 = .ok (.if_icmp .ge 40, 3) := by decide +kernel
theorem dX1_chooseMates_23 : decode cX1_chooseMates 23 = .ok (.aload_n 0, 1) := by decide +kernel
theorem dX1_chooseMates_24 : decode cX1_chooseMates 24 = .ok (.iload_n 3, 1) := by decide +kernel
theorem dX1_chooseMates_25 : decode cX1_chooseMates 25 = .ok (.iload_n 2, 1) := by decide +kernel
theorem dX1_chooseMates_26 : decode cX1_chooseMates 26 = .ok (.invokevirtual 78, 3) := by decide +kernel
theorem dX1_chooseMates_29 : decode cX1_chooseMates 29 = .ok (.istore 4, 2) := by decide +kernel
theorem dX1_chooseMates_31 : decode cX1_chooseMates 31 = .ok (.iload 4, 2) := by decide +kernel
theorem dX1_chooseMates_33 : decode cX1_chooseMates 33 = .ok (.bipush (-9), 2) := by decide +kernel
theorem dX1_chooseMates_35 : decode cX1_chooseMates 35 = .ok (.if_icmp .eq 19, 3) := by decide +kernel
theorem dX1_chooseMates_38 : decode cX1_chooseMates 38 = .ok (.aload_n 0, 1) := by decide +kernel
theorem dX1_chooseMates_39 : decode cX1_chooseMates 39 = .ok (.getfield 9, 3) := by decide +kernel
theorem dX1_chooseMates_42 : decode cX1_chooseMates 42 = .ok (.iload_n 3, 1) := by decide +kernel
theorem dX1_chooseMates_43 : decode cX1_chooseMates 43 = .ok (.iload 4, 2) := by decide +kernel
theorem dX1_chooseMates_45 : decode cX1_chooseMates 45 = .ok (.iastore, 1) := by decide +kernel
theorem dX1_chooseMates_46 : decode cX1_chooseMates 46 = .ok (.iload 4, 2) := by decide +kernel
theorem dX1_chooseMates_48 : decode cX1_chooseMates 48 = .ok (.iconst 1, 1) := by decide +kernel
theorem dX1_chooseMates_49 : decode cX1_chooseMates 49 = .ok (.iadd, 1) := by decide +kernel
theorem dX1_chooseMates_50 : decode cX1_chooseMates 50 = .ok (.istore_n 2, 1) := by decide +kernel
theorem dX1_chooseMates_51 : decode cX1_chooseMates 51 = .ok (.iinc 1 1, 3) := by decide +kernel
theorem dX1_chooseMates_54 : decode cX1_chooseMates 54 = .ok (.iinc 3 1, 3) := by decide +kernel
theorem dX1_chooseMates_57 : decode cX1_chooseMates 57 = .ok (.goto (-42), 3) := by decide +kernel
theorem dX1_chooseMates_60 : decode cX1_chooseMates 60 = .ok (.iload_n 1, 1) := by decide +kernel
theorem dX1_chooseMates_61 : decode cX1_chooseMates 61 = .ok (.ireturn, 1) := by decide +kernel
theorem dX1_lowestMate_0 : decode cX1_lowestMate 0 = .ok (.iload_n 2, 1) := by decide +kernel
theorem dX1_lowestMate_1 : decode cX1_lowestMate 1 = .ok (.istore_n 3, 1) := by decide +kernel
theorem dX1_lowestMate_2 : decode cX1_lowestMate 2 = .ok (.iload_n 3, 1) := by decide +kernel
theorem dX1_lowestMate_3 : decode cX1_lowestMate 3 = .ok (.aload_n 0, 1) := by decide +kernel
theorem dX1_lowestMate_4 : decode cX1_lowestMate 4 = .ok (.getfield 35, 3) := by decide +kernel
theorem dX1_lowestMate_7 : decode cX1_lowestMate 7 = .ok (.if_icmp .ge 31, 3) := by decide +kernel
theorem dX1_lowestMate_10 : decode cX1_lowestMate 10 = .ok (.aload_n 0, 1) := by decide +kernel
theorem dX1_lowestMate_11 : decode cX1_lowestMate 11 = .ok (.iload_n 1, 1) := by decide +kernel
theorem dX1_lowestMate_12 : decode cX1_lowestMate 12 = .ok (.iload_n 3, 1) := by decide +kernel
theorem dX1_lowestMate_13 : decode cX1_lowestMate 13 = .ok (.invokevirtual 71, 3) := by decide +kernel
theorem dX1_lowestMate_16 : decode cX1_lowestMate 16 = .ok (.aload_n 0, 1) := by decide +kernel
theorem dX1_lowestMate_17 : decode cX1_lowestMate 17 = .ok (.getfield 21, 3) := by decide +kernel
theorem dX1_lowestMate_20 : decode cX1_lowestMate 20 = .ok (.iload_n 1, 1) := by decide +kernel
theorem dX1_lowestMate_21 : decode cX1_lowestMate 21 = .ok (.bipush 7, 2) := by decide +kernel
theorem dX1_lowestMate_23 : decode cX1_lowestMate 23 = .ok (.imul, 1) := by decide +kernel
theorem dX1_lowestMate_24 : decode cX1_lowestMate 24 = .ok (.iload_n 2, 1) := by decide +kernel
theorem dX1_lowestMate_25 : decode cX1_lowestMate 25 = .ok (.iadd, 1) := by decide +kernel
theorem dX1_lowestMate_26 : decode cX1_lowestMate 26 = .ok (.iaload, 1) := by decide +kernel
theorem dX1_lowestMate_27 : decode cX1_lowestMate 27 = .ok (.if_icmp .ne 5, 3) := by decide +kernel
theorem dX1_lowestMate_30 : decode cX1_lowestMate 30 = .ok (.iload_n 3, 1) := by decide +kernel
theorem dX1_lowestMate_31 : decode cX1_lowestMate 31 = .ok (.ireturn, 1) := by decide +kernel
theorem dX1_lowestMate_32 : decode cX1_lowestMate 32 = .ok (.iinc 3 1, 3) := by decide +kernel
theorem dX1_lowestMate_35 : decode cX1_lowestMate 35 = .ok (.goto (-33), 3) := by decide +kernel
theorem dX1_lowestMate_38 : decode cX1_lowestMate 38 = .ok (.bipush (-9), 2) := by decide +kernel
theorem dX1_lowestMate_40 : decode cX1_lowestMate 40 = .ok (.ireturn, 1) := by decide +kernel
theorem dX2_init_0 : decode cX2_init 0 = .ok (.aload_n 0, 1) := by decide +kernel
theorem dX2_init_1 : decode cX2_init 1 = .ok (.invokespecial 3, 3) := by decide +kernel
theorem dX2_init_4 : decode cX2_init 4 = .ok (.aload_n 0, 1) := by decide +kernel
theorem dX2_init_5 : decode cX2_init 5 = .ok (.bipush 8, 2) := by decide +kernel
theorem dX2_init_7 : decode cX2_init 7 = .ok (.newarray .int, 2) := by decide +kernel
theorem dX2_init_9 : decode cX2_init 9 = .ok (.putfield 9, 3) := by decide +kernel
theorem dX2_init_12 : decode cX2_init 12 = .ok (.aload_n 0, 1) := by decide +kernel
theorem dX2_init_13 : decode cX2_init 13 = .ok (.bipush 48, 2) := by decide +kernel
theorem dX2_init_15 : decode cX2_init 15 = .ok (.newarray .int, 2) := by decide +kernel
theorem dX2_init_17 : decode cX2_init 17 = .ok (.putfield 15, 3) := by decide +kernel
theorem dX2_init_20 : decode cX2_init 20 = .ok (.aload_n 0, 1) := by decide +kernel
theorem dX2_init_21 : decode cX2_init 21 = .ok (.bipush 48, 2) := by decide +kernel
theorem dX2_init_23 : decode cX2_init 23 = .ok (.newarray .int, 2) := by decide +kernel
theorem dX2_init_25 : decode cX2_init 25 = .ok (.putfield 18, 3) := by decide +kernel
theorem dX2_init_28 : decode cX2_init 28 = .ok (.aload_n 0, 1) := by decide +kernel
theorem dX2_init_29 : decode cX2_init 29 = .ok (.bipush 48, 2) := by decide +kernel
theorem dX2_init_31 : decode cX2_init 31 = .ok (.newarray .int, 2) := by decide +kernel
theorem dX2_init_33 : decode cX2_init 33 = .ok (.putfield 21, 3) := by decide +kernel
theorem dX2_init_36 : decode cX2_init 36 = .ok (.return_, 1) := by decide +kernel
theorem dX2_find_0 : decode cX2_find 0 = .ok (.iconst 0, 1) := by decide +kernel
theorem dX2_find_1 : decode cX2_find 1 = .ok (.istore_n 2, 1) := by decide +kernel
theorem dX2_find_2 : decode cX2_find 2 = .ok (.iload_n 2, 1) := by decide +kernel
theorem dX2_find_3 : decode cX2_find 3 = .ok (.bipush 8, 2) := by decide +kernel
theorem dX2_find_5 : decode cX2_find 5 = .ok (.if_icmp .ge 39, 3) := by decide +kernel
theorem dX2_find_8 : decode cX2_find 8 = .ok (.aload_n 0, 1) := by decide +kernel
theorem dX2_find_9 : decode cX2_find 9 = .ok (.getfield 9, 3) := by decide +kernel
theorem dX2_find_12 : decode cX2_find 12 = .ok (.iload_n 2, 1) := by decide +kernel
theorem dX2_find_13 : decode cX2_find 13 = .ok (.iconst 0, 1) := by decide +kernel
theorem dX2_find_14 : decode cX2_find 14 = .ok (.iastore, 1) := by decide +kernel
theorem dX2_find_15 : decode cX2_find 15 = .ok (.iconst 0, 1) := by decide +kernel
theorem dX2_find_16 : decode cX2_find 16 = .ok (.istore_n 3, 1) := by decide +kernel
theorem dX2_find_17 : decode cX2_find 17 = .ok (.iload_n 3, 1) := by decide +kernel
theorem dX2_find_18 : decode cX2_find 18 = .ok (.aload_n 1, 1) := by decide +kernel
theorem dX2_find_19 : decode cX2_find 19 = .ok (.getfield 24, 3) := by decide +kernel
theorem dX2_find_22 : decode cX2_find 22 = .ok (.if_icmp .ge 16, 3) := by decide +kernel
theorem dX2_find_25 : decode cX2_find 25 = .ok (.aload_n 0, 1) := by decide +kernel
theorem dX2_find_26 : decode cX2_find 26 = .ok (.aload_n 1, 1) := by decide +kernel
theorem dX2_find_27 : decode cX2_find 27 = .ok (.iload_n 2, 1) := by decide +kernel
theorem dX2_find_28 : decode cX2_find 28 = .ok (.iload_n 3, 1) := by decide +kernel
theorem dX2_find_29 : decode cX2_find 29 = .ok (.invokevirtual 29, 3) := by decide +kernel
theorem dX2_find_32 : decode cX2_find 32 = .ok (.iinc 3 1, 3) := by decide +kernel
theorem dX2_find_35 : decode cX2_find 35 = .ok (.goto (-18), 3) := by decide +kernel
theorem dX2_find_38 : decode cX2_find 38 = .ok (.iinc 2 1, 3) := by decide +kernel
theorem dX2_find_41 : decode cX2_find 41 = .ok (.goto (-39), 3) := by decide +kernel
theorem dX2_find_44 : decode cX2_find 44 = .ok (.return_, 1) := by decide +kernel
theorem dX2_lookAt_0 : decode cX2_lookAt 0 = .ok (.aload_n 1, 1) := by decide +kernel
theorem dX2_lookAt_1 : decode cX2_lookAt 1 = .ok (.iload_n 2, 1) := by decide +kernel
theorem dX2_lookAt_2 : decode cX2_lookAt 2 = .ok (.iload_n 3, 1) := by decide +kernel
theorem dX2_lookAt_3 : decode cX2_lookAt 3 = .ok (.invokevirtual 33, 3) := by decide +kernel
theorem dX2_lookAt_6 : decode cX2_lookAt 6 = .ok (.istore 4, 2) := by decide +kernel
theorem dX2_lookAt_8 : decode cX2_lookAt 8 = .ok (.aload_n 1, 1) := by decide +kernel
theorem dX2_lookAt_9 : decode cX2_lookAt 9 = .ok (.iload_n 2, 1) := by decide +kernel
theorem dX2_lookAt_10 : decode cX2_lookAt 10 = .ok (.iload_n 3, 1) := by decide +kernel
theorem dX2_lookAt_11 : decode cX2_lookAt 11 = .ok (.iconst 1, 1) := by decide +kernel
theorem dX2_lookAt_12 : decode cX2_lookAt 12 = .ok (.isub, 1) := by decide +kernel
theorem dX2_lookAt_13 : decode cX2_lookAt 13 = .ok (.invokevirtual 33, 3) := by decide +kernel
theorem dX2_lookAt_16 : decode cX2_lookAt 16 = .ok (.istore 5, 2) := by decide +kernel
theorem dX2_lookAt_18 : decode cX2_lookAt 18 = .ok (.aload_n 1, 1) := by decide +kernel
theorem dX2_lookAt_19 : decode cX2_lookAt 19 = .ok (.iload_n 2, 1) := by decide +kernel
theorem dX2_lookAt_20 : decode cX2_lookAt 20 = .ok (.iload_n 3, 1) := by decide +kernel
theorem dX2_lookAt_21 : decode cX2_lookAt 21 = .ok (.iconst 1, 1) := by decide +kernel
theorem dX2_lookAt_22 : decode cX2_lookAt 22 = .ok (.iadd, 1) := by decide +kernel
theorem dX2_lookAt_23 : decode cX2_lookAt 23 = .ok (.invokevirtual 33, 3) := by decide +kernel
theorem dX2_lookAt_26 : decode cX2_lookAt 26 = .ok (.istore 6, 2) := by decide +kernel
theorem dX2_lookAt_28 : decode cX2_lookAt 28 = .ok (.iload 4, 2) := by decide +kernel
theorem dX2_lookAt_30 : decode cX2_lookAt 30 = .ok (.aload_n 1, 1) := by decide +kernel
theorem dX2_lookAt_31 : decode cX2_lookAt 31 = .ok (.getfield 37, 3) := by decide +kernel
theorem dX2_lookAt_34 : decode cX2_lookAt 34 = .ok (.iconst 0, 1) := by decide +kernel
theorem dX2_lookAt_35 : decode cX2_lookAt 35 = .ok (.iaload, 1) := by decide +kernel
theorem dX2_lookAt_36 : decode cX2_lookAt 36 = .ok (.if_icmp .lt 21, 3) := by decide +kernel
theorem dX2_lookAt_39 : decode cX2_lookAt 39 = .ok (.iload 4, 2) := by decide +kernel
theorem dX2_lookAt_41 : decode cX2_lookAt 41 = .ok (.iload 5, 2) := by decide +kernel
theorem dX2_lookAt_43 : decode cX2_lookAt 43 = .ok (.if_icmp .le 14, 3) := by decide +kernel
theorem dX2_lookAt_46 : decode cX2_lookAt 46 = .ok (.iload 4, 2) := by decide +kernel
theorem dX2_lookAt_48 : decode cX2_lookAt 48 = .ok (.iload 6, 2) := by decide +kernel
theorem dX2_lookAt_50 : decode cX2_lookAt 50 = .ok (.if_icmp .lt 7, 3) := by decide +kernel
theorem dX2_lookAt_53 : decode cX2_lookAt 53 = .ok (.iconst 1, 1) := by decide +kernel
theorem dX2_lookAt_54 : decode cX2_lookAt 54 = .ok (.goto 4, 3) := by decide +kernel
theorem dX2_lookAt_57 : decode cX2_lookAt 57 = .ok (.iconst 0, 1) := by decide +kernel
theorem dX2_lookAt_58 : decode cX2_lookAt 58 = .ok (.istore 7, 2) := by decide +kernel
theorem dX2_lookAt_60 : decode cX2_lookAt 60 = .ok (.iload 7, 2) := by decide +kernel
theorem dX2_lookAt_62 : decode cX2_lookAt 62 = .ok (.ifCond .eq 72, 3) := by decide +kernel
theorem dX2_lookAt_65 : decode cX2_lookAt 65 = .ok (.aload_n 0, 1) := by decide +kernel
theorem dX2_lookAt_66 : decode cX2_lookAt 66 = .ok (.getfield 9, 3) := by decide +kernel
theorem dX2_lookAt_69 : decode cX2_lookAt 69 = .ok (.iload_n 2, 1) := by decide +kernel
theorem dX2_lookAt_70 : decode cX2_lookAt 70 = .ok (.iaload, 1) := by decide +kernel
theorem dX2_lookAt_71 : decode cX2_lookAt 71 = .ok (.bipush 6, 2) := by decide +kernel
theorem dX2_lookAt_73 : decode cX2_lookAt 73 = .ok (.if_icmp .ge 61, 3) := by decide +kernel
theorem dX2_lookAt_76 : decode cX2_lookAt 76 = .ok (.iload_n 2, 1) := by decide +kernel
theorem dX2_lookAt_77 : decode cX2_lookAt 77 = .ok (.bipush 6, 2) := by decide +kernel
theorem dX2_lookAt_79 : decode cX2_lookAt 79 = .ok (.imul, 1) := by decide +kernel
theorem dX2_lookAt_80 : decode cX2_lookAt 80 = .ok (.aload_n 0, 1) := by decide +kernel
theorem dX2_lookAt_81 : decode cX2_lookAt 81 = .ok (.getfield 9, 3) := by decide +kernel
theorem dX2_lookAt_84 : decode cX2_lookAt 84 = .ok (.iload_n 2, 1) := by decide +kernel
theorem dX2_lookAt_85 : decode cX2_lookAt 85 = .ok (.iaload, 1) := by decide +kernel
theorem dX2_lookAt_86 : decode cX2_lookAt 86 = .ok (.iadd, 1) := by decide +kernel
theorem dX2_lookAt_87 : decode cX2_lookAt 87 = .ok (.istore 8, 2) := by decide +kernel
theorem dX2_lookAt_89 : decode cX2_lookAt 89 = .ok (.aload_n 0, 1) := by decide +kernel
theorem dX2_lookAt_90 : decode cX2_lookAt 90 = .ok (.getfield 15, 3) := by decide +kernel
theorem dX2_lookAt_93 : decode cX2_lookAt 93 = .ok (.iload 8, 2) := by decide +kernel
theorem dX2_lookAt_95 : decode cX2_lookAt 95 = .ok (.iload_n 3, 1) := by decide +kernel
theorem dX2_lookAt_96 : decode cX2_lookAt 96 = .ok (.iastore, 1) := by decide +kernel
theorem dX2_lookAt_97 : decode cX2_lookAt 97 = .ok (.aload_n 0, 1) := by decide +kernel
theorem dX2_lookAt_98 : decode cX2_lookAt 98 = .ok (.getfield 18, 3) := by decide +kernel
theorem dX2_lookAt_101 : decode cX2_lookAt 101 = .ok (.iload 8, 2) := by decide +kernel
theorem dX2_lookAt_103 : decode cX2_lookAt 103 = .ok (.iconst 4, 1) := by decide +kernel
theorem dX2_lookAt_104 : decode cX2_lookAt 104 = .ok (.iload_n 3, 1) := by decide +kernel
theorem dX2_lookAt_105 : decode cX2_lookAt 105 = .ok (.imul, 1) := by decide +kernel
theorem dX2_lookAt_106 : decode cX2_lookAt 106 = .ok (.iload 6, 2) := by decide +kernel
theorem dX2_lookAt_108 : decode cX2_lookAt 108 = .ok (.iload 5, 2) := by decide +kernel
theorem dX2_lookAt_110 : decode cX2_lookAt 110 = .ok (.invokestatic 40, 3) := by decide +kernel
theorem dX2_lookAt_113 : decode cX2_lookAt 113 = .ok (.iadd, 1) := by decide +kernel
theorem dX2_lookAt_114 : decode cX2_lookAt 114 = .ok (.iastore, 1) := by decide +kernel
theorem dX2_lookAt_115 : decode cX2_lookAt 115 = .ok (.aload_n 0, 1) := by decide +kernel
theorem dX2_lookAt_116 : decode cX2_lookAt 116 = .ok (.getfield 21, 3) := by decide +kernel
theorem dX2_lookAt_119 : decode cX2_lookAt 119 = .ok (.iload 8, 2) := by decide +kernel
theorem dX2_lookAt_121 : decode cX2_lookAt 121 = .ok (.iload 4, 2) := by decide +kernel
theorem dX2_lookAt_123 : decode cX2_lookAt 123 = .ok (.iastore, 1) := by decide +kernel
theorem dX2_lookAt_124 : decode cX2_lookAt 124 = .ok (.aload_n 0, 1) := by decide +kernel
theorem dX2_lookAt_125 : decode cX2_lookAt 125 = .ok (.getfield 9, 3) := by decide +kernel
theorem dX2_lookAt_128 : decode cX2_lookAt 128 = .ok (.iload_n 2, 1) := by decide +kernel
theorem dX2_lookAt_129 : decode cX2_lookAt 129 = .ok (.dup2, 1) := by decide +kernel
theorem dX2_lookAt_130 : decode cX2_lookAt 130 = .ok (.iaload, 1) := by decide +kernel
theorem dX2_lookAt_131 : decode cX2_lookAt 131 = .ok (.iconst 1, 1) := by decide +kernel
theorem dX2_lookAt_132 : decode cX2_lookAt 132 = .ok (.iadd, 1) := by decide +kernel
theorem dX2_lookAt_133 : decode cX2_lookAt 133 = .ok (.iastore, 1) := by decide +kernel
theorem dX2_lookAt_134 : decode cX2_lookAt 134 = .ok (.return_, 1) := by decide +kernel
theorem dX3_init_0 : decode cX3_init 0 = .ok (.aload_n 0, 1) := by decide +kernel
theorem dX3_init_1 : decode cX3_init 1 = .ok (.invokespecial 3, 3) := by decide +kernel
theorem dX3_init_4 : decode cX3_init 4 = .ok (.aload_n 0, 1) := by decide +kernel
theorem dX3_init_5 : decode cX3_init 5 = .ok (.iconst 3, 1) := by decide +kernel
theorem dX3_init_6 : decode cX3_init 6 = .ok (.newarray .int, 2) := by decide +kernel
theorem dX3_init_8 : decode cX3_init 8 = .ok (.putfield 9, 3) := by decide +kernel
theorem dX3_init_11 : decode cX3_init 11 = .ok (.aload_n 0, 1) := by decide +kernel
theorem dX3_init_12 : decode cX3_init 12 = .ok (.bipush 96, 2) := by decide +kernel
theorem dX3_init_14 : decode cX3_init 14 = .ok (.newarray .int, 2) := by decide +kernel
theorem dX3_init_16 : decode cX3_init 16 = .ok (.putfield 15, 3) := by decide +kernel
theorem dX3_init_19 : decode cX3_init 19 = .ok (.return_, 1) := by decide +kernel
theorem dX3_makeFirst_0 : decode cX3_makeFirst 0 = .ok (.aload_n 0, 1) := by decide +kernel
theorem dX3_makeFirst_1 : decode cX3_makeFirst 1 = .ok (.invokevirtual 18, 3) := by decide +kernel
theorem dX3_makeFirst_4 : decode cX3_makeFirst 4 = .ok (.aload_n 0, 1) := by decide +kernel
theorem dX3_makeFirst_5 : decode cX3_makeFirst 5 = .ok (.iconst 1, 1) := by decide +kernel
theorem dX3_makeFirst_6 : decode cX3_makeFirst 6 = .ok (.putfield 21, 3) := by decide +kernel
theorem dX3_makeFirst_9 : decode cX3_makeFirst 9 = .ok (.aload_n 0, 1) := by decide +kernel
theorem dX3_makeFirst_10 : decode cX3_makeFirst 10 = .ok (.iconst 3, 1) := by decide +kernel
theorem dX3_makeFirst_11 : decode cX3_makeFirst 11 = .ok (.putfield 25, 3) := by decide +kernel
theorem dX3_makeFirst_14 : decode cX3_makeFirst 14 = .ok (.return_, 1) := by decide +kernel
theorem dX3_makeEmpty_0 : decode cX3_makeEmpty 0 = .ok (.aload_n 0, 1) := by decide +kernel
theorem dX3_makeEmpty_1 : decode cX3_makeEmpty 1 = .ok (.iconst 0, 1) := by decide +kernel
theorem dX3_makeEmpty_2 : decode cX3_makeEmpty 2 = .ok (.putfield 21, 3) := by decide +kernel
theorem dX3_makeEmpty_5 : decode cX3_makeEmpty 5 = .ok (.aload_n 0, 1) := by decide +kernel
theorem dX3_makeEmpty_6 : decode cX3_makeEmpty 6 = .ok (.iconst 0, 1) := by decide +kernel
theorem dX3_makeEmpty_7 : decode cX3_makeEmpty 7 = .ok (.putfield 25, 3) := by decide +kernel
theorem dX3_makeEmpty_10 : decode cX3_makeEmpty 10 = .ok (.getstatic 28, 3) := by decide +kernel
theorem dX3_makeEmpty_13 : decode cX3_makeEmpty 13 = .ok (.iconst 0, 1) := by decide +kernel
theorem dX3_makeEmpty_14 : decode cX3_makeEmpty 14 = .ok (.aload_n 0, 1) := by decide +kernel
theorem dX3_makeEmpty_15 : decode cX3_makeEmpty 15 = .ok (.getfield 9, 3) := by decide +kernel
theorem dX3_makeEmpty_18 : decode cX3_makeEmpty 18 = .ok (.iconst 0, 1) := by decide +kernel
theorem dX3_makeEmpty_19 : decode cX3_makeEmpty 19 = .ok (.iconst 3, 1) := by decide +kernel
theorem dX3_makeEmpty_20 : decode cX3_makeEmpty 20 = .ok (.invokestatic 31, 3) := by decide +kernel
theorem dX3_makeEmpty_23 : decode cX3_makeEmpty 23 = .ok (.aload_n 0, 1) := by decide +kernel
theorem dX3_makeEmpty_24 : decode cX3_makeEmpty 24 = .ok (.getfield 15, 3) := by decide +kernel
theorem dX3_makeEmpty_27 : decode cX3_makeEmpty 27 = .ok (.iconst 0, 1) := by decide +kernel
theorem dX3_makeEmpty_28 : decode cX3_makeEmpty 28 = .ok (.invokestatic 37, 3) := by decide +kernel
theorem dX3_makeEmpty_31 : decode cX3_makeEmpty 31 = .ok (.return_, 1) := by decide +kernel
theorem dX3_takeFrom_0 : decode cX3_takeFrom 0 = .ok (.aload_n 0, 1) := by decide +kernel
theorem dX3_takeFrom_1 : decode cX3_takeFrom 1 = .ok (.aload_n 1, 1) := by decide +kernel
theorem dX3_takeFrom_2 : decode cX3_takeFrom 2 = .ok (.getfield 21, 3) := by decide +kernel
theorem dX3_takeFrom_5 : decode cX3_takeFrom 5 = .ok (.putfield 21, 3) := by decide +kernel
theorem dX3_takeFrom_8 : decode cX3_takeFrom 8 = .ok (.aload_n 0, 1) := by decide +kernel
theorem dX3_takeFrom_9 : decode cX3_takeFrom 9 = .ok (.aload_n 1, 1) := by decide +kernel
theorem dX3_takeFrom_10 : decode cX3_takeFrom 10 = .ok (.getfield 25, 3) := by decide +kernel
theorem dX3_takeFrom_13 : decode cX3_takeFrom 13 = .ok (.putfield 25, 3) := by decide +kernel
theorem dX3_takeFrom_16 : decode cX3_takeFrom 16 = .ok (.aload_n 1, 1) := by decide +kernel
theorem dX3_takeFrom_17 : decode cX3_takeFrom 17 = .ok (.getfield 9, 3) := by decide +kernel
theorem dX3_takeFrom_20 : decode cX3_takeFrom 20 = .ok (.iconst 0, 1) := by decide +kernel
theorem dX3_takeFrom_21 : decode cX3_takeFrom 21 = .ok (.aload_n 0, 1) := by decide +kernel
theorem dX3_takeFrom_22 : decode cX3_takeFrom 22 = .ok (.getfield 9, 3) := by decide +kernel
theorem dX3_takeFrom_25 : decode cX3_takeFrom 25 = .ok (.iconst 0, 1) := by decide +kernel
theorem dX3_takeFrom_26 : decode cX3_takeFrom 26 = .ok (.iconst 3, 1) := by decide +kernel
theorem dX3_takeFrom_27 : decode cX3_takeFrom 27 = .ok (.invokestatic 31, 3) := by decide +kernel
theorem dX3_takeFrom_30 : decode cX3_takeFrom 30 = .ok (.aload_n 1, 1) := by decide +kernel
theorem dX3_takeFrom_31 : decode cX3_takeFrom 31 = .ok (.getfield 15, 3) := by decide +kernel
theorem dX3_takeFrom_34 : decode cX3_takeFrom 34 = .ok (.iconst 0, 1) := by decide +kernel
theorem dX3_takeFrom_35 : decode cX3_takeFrom 35 = .ok (.aload_n 0, 1) := by decide +kernel
theorem dX3_takeFrom_36 : decode cX3_takeFrom 36 = .ok (.getfield 15, 3) := by decide +kernel
theorem dX3_takeFrom_39 : decode cX3_takeFrom 39 = .ok (.iconst 0, 1) := by decide +kernel
theorem dX3_takeFrom_40 : decode cX3_takeFrom 40 = .ok (.bipush 96, 2) := by decide +kernel
theorem dX3_takeFrom_42 : decode cX3_takeFrom 42 = .ok (.invokestatic 31, 3) := by decide +kernel
theorem dX3_takeFrom_45 : decode cX3_takeFrom 45 = .ok (.return_, 1) := by decide +kernel
theorem dX3_hasFrame_0 : decode cX3_hasFrame 0 = .ok (.iload_n 1, 1) := by decide +kernel
theorem dX3_hasFrame_1 : decode cX3_hasFrame 1 = .ok (.ifCond .lt 15, 3) := by decide +kernel
theorem dX3_hasFrame_4 : decode cX3_hasFrame 4 = .ok (.iload_n 1, 1) := by decide +kernel
theorem dX3_hasFrame_5 : decode cX3_hasFrame 5 = .ok (.aload_n 0, 1) := by decide +kernel
theorem dX3_hasFrame_6 : decode cX3_hasFrame 6 = .ok (.getfield 21, 3) := by decide +kernel
theorem dX3_hasFrame_9 : decode cX3_hasFrame 9 = .ok (.if_icmp .ge 7, 3) := by decide +kernel
theorem dX3_hasFrame_12 : decode cX3_hasFrame 12 = .ok (.iconst 1, 1) := by decide +kernel
theorem dX3_hasFrame_13 : decode cX3_hasFrame 13 = .ok (.goto 4, 3) := by decide +kernel
theorem dX3_hasFrame_16 : decode cX3_hasFrame 16 = .ok (.iconst 0, 1) := by decide +kernel
theorem dX3_hasFrame_17 : decode cX3_hasFrame 17 = .ok (.ireturn, 1) := by decide +kernel
theorem dX3_hasPlace_0 : decode cX3_hasPlace 0 = .ok (.aload_n 0, 1) := by decide +kernel
theorem dX3_hasPlace_1 : decode cX3_hasPlace 1 = .ok (.iload_n 1, 1) := by decide +kernel
theorem dX3_hasPlace_2 : decode cX3_hasPlace 2 = .ok (.invokevirtual 43, 3) := by decide +kernel
theorem dX3_hasPlace_5 : decode cX3_hasPlace 5 = .ok (.ifCond .eq 19, 3) := by decide +kernel
theorem dX3_hasPlace_8 : decode cX3_hasPlace 8 = .ok (.iload_n 2, 1) := by decide +kernel
theorem dX3_hasPlace_9 : decode cX3_hasPlace 9 = .ok (.ifCond .lt 15, 3) := by decide +kernel
theorem dX3_hasPlace_12 : decode cX3_hasPlace 12 = .ok (.iload_n 2, 1) := by decide +kernel
theorem dX3_hasPlace_13 : decode cX3_hasPlace 13 = .ok (.aload_n 0, 1) := by decide +kernel
theorem dX3_hasPlace_14 : decode cX3_hasPlace 14 = .ok (.getfield 25, 3) := by decide +kernel
theorem dX3_hasPlace_17 : decode cX3_hasPlace 17 = .ok (.if_icmp .ge 7, 3) := by decide +kernel
theorem dX3_hasPlace_20 : decode cX3_hasPlace 20 = .ok (.iconst 1, 1) := by decide +kernel
theorem dX3_hasPlace_21 : decode cX3_hasPlace 21 = .ok (.goto 4, 3) := by decide +kernel
theorem dX3_hasPlace_24 : decode cX3_hasPlace 24 = .ok (.iconst 0, 1) := by decide +kernel
theorem dX3_hasPlace_25 : decode cX3_hasPlace 25 = .ok (.ireturn, 1) := by decide +kernel
theorem dX3_levelAt_0 : decode cX3_levelAt 0 = .ok (.aload_n 0, 1) := by decide +kernel
theorem dX3_levelAt_1 : decode cX3_levelAt 1 = .ok (.iload_n 1, 1) := by decide +kernel
theorem dX3_levelAt_2 : decode cX3_levelAt 2 = .ok (.iload_n 2, 1) := by decide +kernel
theorem dX3_levelAt_3 : decode cX3_levelAt 3 = .ok (.invokevirtual 47, 3) := by decide +kernel
theorem dX3_levelAt_6 : decode cX3_levelAt 6 = .ok (.ifCond .eq 17, 3) := by decide +kernel
theorem dX3_levelAt_9 : decode cX3_levelAt 9 = .ok (.aload_n 0, 1) := by decide +kernel
theorem dX3_levelAt_10 : decode cX3_levelAt 10 = .ok (.getfield 15, 3) := by decide +kernel
theorem dX3_levelAt_13 : decode cX3_levelAt 13 = .ok (.iload_n 1, 1) := by decide +kernel
theorem dX3_levelAt_14 : decode cX3_levelAt 14 = .ok (.bipush 12, 2) := by decide +kernel
theorem dX3_levelAt_16 : decode cX3_levelAt 16 = .ok (.imul, 1) := by decide +kernel
theorem dX3_levelAt_17 : decode cX3_levelAt 17 = .ok (.iload_n 2, 1) := by decide +kernel
theorem dX3_levelAt_18 : decode cX3_levelAt 18 = .ok (.iadd, 1) := by decide +kernel
theorem dX3_levelAt_19 : decode cX3_levelAt 19 = .ok (.iaload, 1) := by decide +kernel
theorem dX3_levelAt_20 : decode cX3_levelAt 20 = .ok (.goto 4, 3) := by decide +kernel
theorem dX3_levelAt_23 : decode cX3_levelAt 23 = .ok (.iconst 0, 1) := by decide +kernel
theorem dX3_levelAt_24 : decode cX3_levelAt 24 = .ok (.ireturn, 1) := by decide +kernel
theorem dX3_putLevel_0 : decode cX3_putLevel 0 = .ok (.aload_n 0, 1) := by decide +kernel
theorem dX3_putLevel_1 : decode cX3_putLevel 1 = .ok (.iload_n 1, 1) := by decide +kernel
theorem dX3_putLevel_2 : decode cX3_putLevel 2 = .ok (.iload_n 2, 1) := by decide +kernel
theorem dX3_putLevel_3 : decode cX3_putLevel 3 = .ok (.invokevirtual 47, 3) := by decide +kernel
theorem dX3_putLevel_6 : decode cX3_putLevel 6 = .ok (.ifCond .eq 15, 3) := by decide +kernel
theorem dX3_putLevel_9 : decode cX3_putLevel 9 = .ok (.aload_n 0, 1) := by decide +kernel
theorem dX3_putLevel_10 : decode cX3_putLevel 10 = .ok (.getfield 15, 3) := by decide +kernel
theorem dX3_putLevel_13 : decode cX3_putLevel 13 = .ok (.iload_n 1, 1) := by decide +kernel
theorem dX3_putLevel_14 : decode cX3_putLevel 14 = .ok (.bipush 12, 2) := by decide +kernel
theorem dX3_putLevel_16 : decode cX3_putLevel 16 = .ok (.imul, 1) := by decide +kernel
theorem dX3_putLevel_17 : decode cX3_putLevel 17 = .ok (.iload_n 2, 1) := by decide +kernel
theorem dX3_putLevel_18 : decode cX3_putLevel 18 = .ok (.iadd, 1) := by decide +kernel
theorem dX3_putLevel_19 : decode cX3_putLevel 19 = .ok (.iload_n 3, 1) := by decide +kernel
theorem dX3_putLevel_20 : decode cX3_putLevel 20 = .ok (.iastore, 1) := by decide +kernel
theorem dX3_putLevel_21 : decode cX3_putLevel 21 = .ok (.return_, 1) := by decide +kernel
theorem dX4_init_0 : decode cX4_init 0 = .ok (.aload_n 0, 1) := by decide +kernel
theorem dX4_init_1 : decode cX4_init 1 = .ok (.invokespecial 3, 3) := by decide +kernel
theorem dX4_init_4 : decode cX4_init 4 = .ok (.aload_n 0, 1) := by decide +kernel
theorem dX4_init_5 : decode cX4_init 5 = .ok (.bipush 6, 2) := by decide +kernel
theorem dX4_init_7 : decode cX4_init 7 = .ok (.newarray .int, 2) := by decide +kernel
theorem dX4_init_9 : decode cX4_init 9 = .ok (.putfield 9, 3) := by decide +kernel
theorem dX4_init_12 : decode cX4_init 12 = .ok (.aload_n 0, 1) := by decide +kernel
theorem dX4_init_13 : decode cX4_init 13 = .ok (.bipush 6, 2) := by decide +kernel
theorem dX4_init_15 : decode cX4_init 15 = .ok (.newarray .int, 2) := by decide +kernel
theorem dX4_init_17 : decode cX4_init 17 = .ok (.putfield 15, 3) := by decide +kernel
theorem dX4_init_20 : decode cX4_init 20 = .ok (.aload_n 0, 1) := by decide +kernel
theorem dX4_init_21 : decode cX4_init 21 = .ok (.bipush 48, 2) := by decide +kernel
theorem dX4_init_23 : decode cX4_init 23 = .ok (.newarray .int, 2) := by decide +kernel
theorem dX4_init_25 : decode cX4_init 25 = .ok (.putfield 18, 3) := by decide +kernel
theorem dX4_init_28 : decode cX4_init 28 = .ok (.aload_n 0, 1) := by decide +kernel
theorem dX4_init_29 : decode cX4_init 29 = .ok (.bipush 55, 2) := by decide +kernel
theorem dX4_init_31 : decode cX4_init 31 = .ok (.newarray .int, 2) := by decide +kernel
theorem dX4_init_33 : decode cX4_init 33 = .ok (.putfield 21, 3) := by decide +kernel
theorem dX4_init_36 : decode cX4_init 36 = .ok (.return_, 1) := by decide +kernel
theorem dX4_append_0 : decode cX4_append 0 = .ok (.aload_n 0, 1) := by decide +kernel
theorem dX4_append_1 : decode cX4_append 1 = .ok (.getfield 24, 3) := by decide +kernel
theorem dX4_append_4 : decode cX4_append 4 = .ok (.bipush 6, 2) := by decide +kernel
theorem dX4_append_6 : decode cX4_append 6 = .ok (.if_icmp .ge 33, 3) := by decide +kernel
theorem dX4_append_9 : decode cX4_append 9 = .ok (.aload_n 0, 1) := by decide +kernel
theorem dX4_append_10 : decode cX4_append 10 = .ok (.getfield 9, 3) := by decide +kernel
theorem dX4_append_13 : decode cX4_append 13 = .ok (.aload_n 0, 1) := by decide +kernel
theorem dX4_append_14 : decode cX4_append 14 = .ok (.getfield 24, 3) := by decide +kernel
theorem dX4_append_17 : decode cX4_append 17 = .ok (.iload_n 1, 1) := by decide +kernel
theorem dX4_append_18 : decode cX4_append 18 = .ok (.iastore, 1) := by decide +kernel
theorem dX4_append_19 : decode cX4_append 19 = .ok (.aload_n 0, 1) := by decide +kernel
theorem dX4_append_20 : decode cX4_append 20 = .ok (.getfield 15, 3) := by decide +kernel
theorem dX4_append_23 : decode cX4_append 23 = .ok (.aload_n 0, 1) := by decide +kernel
theorem dX4_append_24 : decode cX4_append 24 = .ok (.getfield 24, 3) := by decide +kernel
theorem dX4_append_27 : decode cX4_append 27 = .ok (.iload_n 2, 1) := by decide +kernel
theorem dX4_append_28 : decode cX4_append 28 = .ok (.iastore, 1) := by decide +kernel
theorem dX4_append_29 : decode cX4_append 29 = .ok (.aload_n 0, 1) := by decide +kernel
theorem dX4_append_30 : decode cX4_append 30 = .ok (.dup, 1) := by decide +kernel
theorem dX4_append_31 : decode cX4_append 31 = .ok (.getfield 24, 3) := by decide +kernel
theorem dX4_append_34 : decode cX4_append 34 = .ok (.iconst 1, 1) := by decide +kernel
theorem dX4_append_35 : decode cX4_append 35 = .ok (.iadd, 1) := by decide +kernel
theorem dX4_append_36 : decode cX4_append 36 = .ok (.putfield 24, 3) := by decide +kernel
theorem dX4_append_39 : decode cX4_append 39 = .ok (.return_, 1) := by decide +kernel
theorem dX4_gather_0 : decode cX4_gather 0 = .ok (.aload_n 0, 1) := by decide +kernel
theorem dX4_gather_1 : decode cX4_gather 1 = .ok (.iconst 0, 1) := by decide +kernel
theorem dX4_gather_2 : decode cX4_gather 2 = .ok (.putfield 28, 3) := by decide +kernel
theorem dX4_gather_5 : decode cX4_gather 5 = .ok (.iconst 0, 1) := by decide +kernel
theorem dX4_gather_6 : decode cX4_gather 6 = .ok (.istore_n 2, 1) := by decide +kernel
theorem dX4_gather_7 : decode cX4_gather 7 = .ok (.iload_n 2, 1) := by decide +kernel
theorem dX4_gather_8 : decode cX4_gather 8 = .ok (.aload_n 1, 1) := by decide +kernel
theorem dX4_gather_9 : decode cX4_gather 9 = .ok (.getfield 31, 3) := by decide +kernel
theorem dX4_gather_12 : decode cX4_gather 12 = .ok (.if_icmp .ge 38, 3) := by decide +kernel
theorem dX4_gather_15 : decode cX4_gather 15 = .ok (.aload_n 0, 1) := by decide +kernel
theorem dX4_gather_16 : decode cX4_gather 16 = .ok (.aload_n 1, 1) := by decide +kernel
theorem dX4_gather_17 : decode cX4_gather 17 = .ok (.iload_n 2, 1) := by decide +kernel
theorem dX4_gather_18 : decode cX4_gather 18 = .ok (.invokevirtual 34, 3) := by decide +kernel
theorem dX4_gather_21 : decode cX4_gather 21 = .ok (.ifCond .eq 23, 3) := by decide +kernel
theorem dX4_gather_24 : decode cX4_gather 24 = .ok (.aload_n 0, 1) := by decide +kernel
theorem dX4_gather_25 : decode cX4_gather 25 = .ok (.getfield 18, 3) := by decide +kernel
theorem dX4_gather_28 : decode cX4_gather 28 = .ok (.aload_n 0, 1) := by decide +kernel
theorem dX4_gather_29 : decode cX4_gather 29 = .ok (.getfield 28, 3) := by decide +kernel
theorem dX4_gather_32 : decode cX4_gather 32 = .ok (.iload_n 2, 1) := by decide +kernel
theorem dX4_gather_33 : decode cX4_gather 33 = .ok (.iastore, 1) := by decide +kernel
theorem dX4_gather_34 : decode cX4_gather 34 = .ok (.aload_n 0, 1) := by decide +kernel
theorem dX4_gather_35 : decode cX4_gather 35 = .ok (.dup, 1) := by decide +kernel
theorem dX4_gather_36 : decode cX4_gather 36 = .ok (.getfield 28, 3) := by decide +kernel
theorem dX4_gather_39 : decode cX4_gather 39 = .ok (.iconst 1, 1) := by decide +kernel
theorem dX4_gather_40 : decode cX4_gather 40 = .ok (.iadd, 1) := by decide +kernel
theorem dX4_gather_41 : decode cX4_gather 41 = .ok (.putfield 28, 3) := by decide +kernel
theorem dX4_gather_44 : decode cX4_gather 44 = .ok (.iinc 2 1, 3) := by decide +kernel
theorem dX4_gather_47 : decode cX4_gather 47 = .ok (.goto (-40), 3) := by decide +kernel
theorem dX4_gather_50 : decode cX4_gather 50 = .ok (.return_, 1) := by decide +kernel
theorem dX4_fits_0 : decode cX4_fits 0 = .ok (.iconst 0, 1) := by decide +kernel
theorem dX4_fits_1 : decode cX4_fits 1 = .ok (.istore_n 3, 1) := by decide +kernel
theorem dX4_fits_2 : decode cX4_fits 2 = .ok (.iload_n 3, 1) := by decide +kernel
theorem dX4_fits_3 : decode cX4_fits 3 = .ok (.aload_n 0, 1) := by decide +kernel
theorem dX4_fits_4 : decode cX4_fits 4 = .ok (.getfield 24, 3) := by decide +kernel
theorem dX4_fits_7 : decode cX4_fits 7 = .ok (.if_icmp .ge 31, 3) := by decide +kernel
theorem dX4_fits_10 : decode cX4_fits 10 = .ok (.aload_n 1, 1) := by decide +kernel
theorem dX4_fits_11 : decode cX4_fits 11 = .ok (.iload_n 2, 1) := by decide +kernel
theorem dX4_fits_12 : decode cX4_fits 12 = .ok (.aload_n 0, 1) := by decide +kernel
theorem dX4_fits_13 : decode cX4_fits 13 = .ok (.getfield 9, 3) := by decide +kernel
theorem dX4_fits_16 : decode cX4_fits 16 = .ok (.iload_n 3, 1) := by decide +kernel
theorem dX4_fits_17 : decode cX4_fits 17 = .ok (.iaload, 1) := by decide +kernel
theorem dX4_fits_18 : decode cX4_fits 18 = .ok (.invokevirtual 38, 3) := by decide +kernel
theorem dX4_fits_21 : decode cX4_fits 21 = .ok (.aload_n 0, 1) := by decide +kernel
theorem dX4_fits_22 : decode cX4_fits 22 = .ok (.getfield 15, 3) := by decide +kernel
theorem dX4_fits_25 : decode cX4_fits 25 = .ok (.iload_n 3, 1) := by decide +kernel
theorem dX4_fits_26 : decode cX4_fits 26 = .ok (.iaload, 1) := by decide +kernel
theorem dX4_fits_27 : decode cX4_fits 27 = .ok (.if_icmp .eq 5, 3) := by decide +kernel
theorem dX4_fits_30 : decode cX4_fits 30 = .ok (.iconst 0, 1) := by decide +kernel
theorem dX4_fits_31 : decode cX4_fits 31 = .ok (.ireturn, 1) := by decide +kernel
theorem dX4_fits_32 : decode cX4_fits 32 = .ok (.iinc 3 1, 3) := by decide +kernel
theorem dX4_fits_35 : decode cX4_fits 35 = .ok (.goto (-33), 3) := by decide +kernel
theorem dX4_fits_38 : decode cX4_fits 38 = .ok (.iconst 1, 1) := by decide +kernel
theorem dX4_fits_39 : decode cX4_fits 39 = .ok (.ireturn, 1) := by decide +kernel
theorem dX4_mostAlike_0 : decode cX4_mostAlike 0 = .ok (.aload_n 0, 1) := by decide +kernel
theorem dX4_mostAlike_1 : decode cX4_mostAlike 1 = .ok (.getfield 21, 3) := by decide +kernel
theorem dX4_mostAlike_4 : decode cX4_mostAlike 4 = .ok (.iconst 0, 1) := by decide +kernel
theorem dX4_mostAlike_5 : decode cX4_mostAlike 5 = .ok (.invokestatic 42, 3) := by decide +kernel
theorem dX4_mostAlike_8 : decode cX4_mostAlike 8 = .ok (.iconst 0, 1) := by decide +kernel
theorem dX4_mostAlike_9 : decode cX4_mostAlike 9 = .ok (.istore_n 3, 1) := by decide +kernel
theorem dX4_mostAlike_10 : decode cX4_mostAlike 10 = .ok (.iconst 0, 1) := by decide +kernel
theorem dX4_mostAlike_11 : decode cX4_mostAlike 11 = .ok (.istore 4, 2) := by decide +kernel
theorem dX4_mostAlike_13 : decode cX4_mostAlike 13 = .ok (.iload 4, 2) := by decide +kernel
theorem dX4_mostAlike_15 : decode cX4_mostAlike 15 = .ok (.aload_n 0, 1) := by decide +kernel
theorem dX4_mostAlike_16 : decode cX4_mostAlike 16 = .ok (.getfield 28, 3) := by decide +kernel
theorem dX4_mostAlike_19 : decode cX4_mostAlike 19 = .ok (.if_icmp .ge 61, 3) := by decide +kernel
theorem dX4_mostAlike_22 : decode cX4_mostAlike 22 = .ok (.aload_n 1, 1) := by decide +kernel
theorem dX4_mostAlike_23 : decode cX4_mostAlike 23 = .ok (.aload_n 0, 1) := by decide +kernel
theorem dX4_mostAlike_24 : decode cX4_mostAlike 24 = .ok (.getfield 18, 3) := by decide +kernel
theorem dX4_mostAlike_27 : decode cX4_mostAlike 27 = .ok (.iload 4, 2) := by decide +kernel
theorem dX4_mostAlike_29 : decode cX4_mostAlike 29 = .ok (.iaload, 1) := by decide +kernel
theorem dX4_mostAlike_30 : decode cX4_mostAlike 30 = .ok (.iload_n 2, 1) := by decide +kernel
theorem dX4_mostAlike_31 : decode cX4_mostAlike 31 = .ok (.invokevirtual 38, 3) := by decide +kernel
theorem dX4_mostAlike_34 : decode cX4_mostAlike 34 = .ok (.bipush (-9), 2) := by decide +kernel
theorem dX4_mostAlike_36 : decode cX4_mostAlike 36 = .ok (.isub, 1) := by decide +kernel
theorem dX4_mostAlike_37 : decode cX4_mostAlike 37 = .ok (.istore 5, 2) := by decide +kernel
theorem dX4_mostAlike_39 : decode cX4_mostAlike 39 = .ok (.iload 5, 2) := by decide +kernel
theorem dX4_mostAlike_41 : decode cX4_mostAlike 41 = .ok (.ifCond .lt 33, 3) := by decide +kernel
theorem dX4_mostAlike_44 : decode cX4_mostAlike 44 = .ok (.iload 5, 2) := by decide +kernel
theorem dX4_mostAlike_46 : decode cX4_mostAlike 46 = .ok (.bipush 55, 2) := by decide +kernel
theorem dX4_mostAlike_48 : decode cX4_mostAlike 48 = .ok (.if_icmp .ge 26, 3) := by decide +kernel
theorem dX4_mostAlike_51 : decode cX4_mostAlike 51 = .ok (.aload_n 0, 1) := by decide +kernel
theorem dX4_mostAlike_52 : decode cX4_mostAlike 52 = .ok (.getfield 21, 3) := by decide +kernel
theorem dX4_mostAlike_55 : decode cX4_mostAlike 55 = .ok (.iload 5, 2) := by decide +kernel
theorem dX4_mostAlike_57 : decode cX4_mostAlike 57 = .ok (.dup2, 1) := by decide +kernel
theorem dX4_mostAlike_58 : decode cX4_mostAlike 58 = .ok (.iaload, 1) := by decide +kernel
theorem dX4_mostAlike_59 : decode cX4_mostAlike 59 = .ok (.iconst 1, 1) := by decide +kernel
theorem dX4_mostAlike_60 : decode cX4_mostAlike 60 = .ok (.iadd, 1) := by decide +kernel
theorem dX4_mostAlike_61 : decode cX4_mostAlike 61 = .ok (.iastore, 1) := by decide +kernel
theorem dX4_mostAlike_62 : decode cX4_mostAlike 62 = .ok (.iload_n 3, 1) := by decide +kernel
theorem dX4_mostAlike_63 : decode cX4_mostAlike 63 = .ok (.aload_n 0, 1) := by decide +kernel
theorem dX4_mostAlike_64 : decode cX4_mostAlike 64 = .ok (.getfield 21, 3) := by decide +kernel
theorem dX4_mostAlike_67 : decode cX4_mostAlike 67 = .ok (.iload 5, 2) := by decide +kernel
theorem dX4_mostAlike_69 : decode cX4_mostAlike 69 = .ok (.iaload, 1) := by decide +kernel
theorem dX4_mostAlike_70 : decode cX4_mostAlike 70 = .ok (.invokestatic 48, 3) := by decide +kernel
theorem dX4_mostAlike_73 : decode cX4_mostAlike 73 = .ok (.istore_n 3, 1) := by decide +kernel
theorem dX4_mostAlike_74 : decode cX4_mostAlike 74 = .ok (.iinc 4 1, 3) := by decide +kernel
theorem dX4_mostAlike_77 : decode cX4_mostAlike 77 = .ok (.goto (-64), 3) := by decide +kernel
theorem dX4_mostAlike_80 : decode cX4_mostAlike 80 = .ok (.iload_n 3, 1) := by decide +kernel
theorem dX4_mostAlike_81 : decode cX4_mostAlike 81 = .ok (.ireturn, 1) := by decide +kernel
theorem dX5_init_0 : decode cX5_init 0 = .ok (.aload_n 0, 1) := by decide +kernel
theorem dX5_init_1 : decode cX5_init 1 = .ok (.invokespecial 3, 3) := by decide +kernel
theorem dX5_init_4 : decode cX5_init 4 = .ok (.aload_n 0, 1) := by decide +kernel
theorem dX5_init_5 : decode cX5_init 5 = .ok (.sipush 140, 3) := by decide +kernel
theorem dX5_init_8 : decode cX5_init 8 = .ok (.newarray .char, 2) := by decide +kernel
theorem dX5_init_10 : decode cX5_init 10 = .ok (.putfield 9, 3) := by decide +kernel
theorem dX5_init_13 : decode cX5_init 13 = .ok (.return_, 1) := by decide +kernel
theorem dX5_append_0 : decode cX5_append 0 = .ok (.aload_n 0, 1) := by decide +kernel
theorem dX5_append_1 : decode cX5_append 1 = .ok (.getfield 15, 3) := by decide +kernel
theorem dX5_append_4 : decode cX5_append 4 = .ok (.sipush 140, 3) := by decide +kernel
theorem dX5_append_7 : decode cX5_append 7 = .ok (.if_icmp .ge 23, 3) := by decide +kernel
theorem dX5_append_10 : decode cX5_append 10 = .ok (.aload_n 0, 1) := by decide +kernel
theorem dX5_append_11 : decode cX5_append 11 = .ok (.getfield 9, 3) := by decide +kernel
theorem dX5_append_14 : decode cX5_append 14 = .ok (.aload_n 0, 1) := by decide +kernel
theorem dX5_append_15 : decode cX5_append 15 = .ok (.getfield 15, 3) := by decide +kernel
theorem dX5_append_18 : decode cX5_append 18 = .ok (.iload_n 1, 1) := by decide +kernel
theorem dX5_append_19 : decode cX5_append 19 = .ok (.castore, 1) := by decide +kernel
theorem dX5_append_20 : decode cX5_append 20 = .ok (.aload_n 0, 1) := by decide +kernel
theorem dX5_append_21 : decode cX5_append 21 = .ok (.dup, 1) := by decide +kernel
theorem dX5_append_22 : decode cX5_append 22 = .ok (.getfield 15, 3) := by decide +kernel
theorem dX5_append_25 : decode cX5_append 25 = .ok (.iconst 1, 1) := by decide +kernel
theorem dX5_append_26 : decode cX5_append 26 = .ok (.iadd, 1) := by decide +kernel
theorem dX5_append_27 : decode cX5_append 27 = .ok (.putfield 15, 3) := by decide +kernel
theorem dX5_append_30 : decode cX5_append 30 = .ok (.return_, 1) := by decide +kernel
theorem dX5_readAll_0 : decode cX5_readAll 0 = .ok (.aload_n 1, 1) := by decide +kernel
theorem dX5_readAll_1 : decode cX5_readAll 1 = .ok (.invokevirtual 19, 3) := by decide +kernel
theorem dX5_readAll_4 : decode cX5_readAll 4 = .ok (.aload_n 0, 1) := by decide +kernel
theorem dX5_readAll_5 : decode cX5_readAll 5 = .ok (.iconst 0, 1) := by decide +kernel
theorem dX5_readAll_6 : decode cX5_readAll 6 = .ok (.putfield 24, 3) := by decide +kernel
theorem dX5_readAll_9 : decode cX5_readAll 9 = .ok (.iconst 0, 1) := by decide +kernel
theorem dX5_readAll_10 : decode cX5_readAll 10 = .ok (.istore_n 2, 1) := by decide +kernel
theorem dX5_readAll_11 : decode cX5_readAll 11 = .ok (.iconst 0, 1) := by decide +kernel
theorem dX5_readAll_12 : decode cX5_readAll 12 = .ok (.istore_n 3, 1) := by decide +kernel
theorem dX5_readAll_13 : decode cX5_readAll 13 = .ok (.iload_n 3, 1) := by decide +kernel
theorem dX5_readAll_14 : decode cX5_readAll 14 = .ok (.sipush 140, 3) := by decide +kernel
theorem dX5_readAll_17 : decode cX5_readAll 17 = .ok (.if_icmp .ge 48, 3) := by decide +kernel
theorem dX5_readAll_20 : decode cX5_readAll 20 = .ok (.aload_n 0, 1) := by decide +kernel
theorem dX5_readAll_21 : decode cX5_readAll 21 = .ok (.invokevirtual 27, 3) := by decide +kernel
theorem dX5_readAll_24 : decode cX5_readAll 24 = .ok (.aload_n 0, 1) := by decide +kernel
theorem dX5_readAll_25 : decode cX5_readAll 25 = .ok (.getfield 30, 3) := by decide +kernel
theorem dX5_readAll_28 : decode cX5_readAll 28 = .ok (.ifCond .ne 12, 3) := by decide +kernel
theorem dX5_readAll_31 : decode cX5_readAll 31 = .ok (.aload_n 1, 1) := by decide +kernel
theorem dX5_readAll_32 : decode cX5_readAll 32 = .ok (.getfield 33, 3) := by decide +kernel
theorem dX5_readAll_35 : decode cX5_readAll 35 = .ok (.ifCond .le 5, 3) := by decide +kernel
theorem dX5_readAll_38 : decode cX5_readAll 38 = .ok (.iload_n 2, 1) := by decide +kernel
theorem dX5_readAll_39 : decode cX5_readAll 39 = .ok (.ireturn, 1) := by decide +kernel
theorem dX5_readAll_40 : decode cX5_readAll 40 = .ok (.aload_n 0, 1) := by decide +kernel
theorem dX5_readAll_41 : decode cX5_readAll 41 = .ok (.aload_n 1, 1) := by decide +kernel
theorem dX5_readAll_42 : decode cX5_readAll 42 = .ok (.invokevirtual 36, 3) := by decide +kernel
theorem dX5_readAll_45 : decode cX5_readAll 45 = .ok (.ifCond .ne 11, 3) := by decide +kernel
theorem dX5_readAll_48 : decode cX5_readAll 48 = .ok (.bipush (-10), 2) := by decide +kernel
theorem dX5_readAll_50 : decode cX5_readAll 50 = .ok (.aload_n 0, 1) := by decide +kernel
theorem dX5_readAll_51 : decode cX5_readAll 51 = .ok (.getfield 40, 3) := by decide +kernel
theorem dX5_readAll_54 : decode cX5_readAll 54 = .ok (.isub, 1) := by decide +kernel
theorem dX5_readAll_55 : decode cX5_readAll 55 = .ok (.ireturn, 1) := by decide +kernel
theorem dX5_readAll_56 : decode cX5_readAll 56 = .ok (.iinc 2 1, 3) := by decide +kernel
theorem dX5_readAll_59 : decode cX5_readAll 59 = .ok (.iinc 3 1, 3) := by decide +kernel
theorem dX5_readAll_62 : decode cX5_readAll 62 = .ok (.goto (-49), 3) := by decide +kernel
theorem dX5_readAll_65 : decode cX5_readAll 65 = .ok (.bipush (-10), 2) := by decide +kernel
theorem dX5_readAll_67 : decode cX5_readAll 67 = .ok (.aload_n 0, 1) := by decide +kernel
theorem dX5_readAll_68 : decode cX5_readAll 68 = .ok (.getfield 40, 3) := by decide +kernel
theorem dX5_readAll_71 : decode cX5_readAll 71 = .ok (.isub, 1) := by decide +kernel
theorem dX5_readAll_72 : decode cX5_readAll 72 = .ok (.ireturn, 1) := by decide +kernel
theorem dX5_readItem_0 : decode cX5_readItem 0 = .ok (.aload_n 0, 1) := by decide +kernel
theorem dX5_readItem_1 : decode cX5_readItem 1 = .ok (.ldc 43, 2) := by decide +kernel
theorem dX5_readItem_3 : decode cX5_readItem 3 = .ok (.invokevirtual 45, 3) := by decide +kernel
theorem dX5_readItem_6 : decode cX5_readItem 6 = .ok (.ifCond .eq 28, 3) := by decide +kernel
theorem dX5_readItem_9 : decode cX5_readItem 9 = .ok (.aload_n 1, 1) := by decide +kernel
theorem dX5_readItem_10 : decode cX5_readItem 10 = .ok (.getfield 33, 3) := by decide +kernel
theorem dX5_readItem_13 : decode cX5_readItem 13 = .ok (.bipush 8, 2) := by decide +kernel
theorem dX5_readItem_15 : decode cX5_readItem 15 = .ok (.if_icmp .lt 5, 3) := by decide +kernel
theorem dX5_readItem_18 : decode cX5_readItem 18 = .ok (.iconst 0, 1) := by decide +kernel
theorem dX5_readItem_19 : decode cX5_readItem 19 = .ok (.ireturn, 1) := by decide +kernel
theorem dX5_readItem_20 : decode cX5_readItem 20 = .ok (.aload_n 0, 1) := by decide +kernel
theorem dX5_readItem_21 : decode cX5_readItem 21 = .ok (.invokevirtual 27, 3) := by decide +kernel
theorem dX5_readItem_24 : decode cX5_readItem 24 = .ok (.aload_n 0, 1) := by decide +kernel
theorem dX5_readItem_25 : decode cX5_readItem 25 = .ok (.aload_n 1, 1) := by decide +kernel
theorem dX5_readItem_26 : decode cX5_readItem 26 = .ok (.invokevirtual 49, 3) := by decide +kernel
theorem dX5_readItem_29 : decode cX5_readItem 29 = .ok (.ifCond .ne 33, 3) := by decide +kernel
theorem dX5_readItem_32 : decode cX5_readItem 32 = .ok (.iconst 0, 1) := by decide +kernel
theorem dX5_readItem_33 : decode cX5_readItem 33 = .ok (.ireturn, 1) := by decide +kernel
theorem dX5_readItem_34 : decode cX5_readItem 34 = .ok (.aload_n 0, 1) := by decide +kernel
theorem dX5_readItem_35 : decode cX5_readItem 35 = .ok (.invokevirtual 52, 3) := by decide +kernel
theorem dX5_readItem_38 : decode cX5_readItem 38 = .ok (.istore_n 2, 1) := by decide +kernel
theorem dX5_readItem_39 : decode cX5_readItem 39 = .ok (.iload_n 2, 1) := by decide +kernel
theorem dX5_readItem_40 : decode cX5_readItem 40 = .ok (.bipush (-9), 2) := by decide +kernel
theorem dX5_readItem_42 : decode cX5_readItem 42 = .ok (.if_icmp .ne 5, 3) := by decide +kernel
theorem dX5_readItem_45 : decode cX5_readItem 45 = .ok (.iconst 0, 1) := by decide +kernel
theorem dX5_readItem_46 : decode cX5_readItem 46 = .ok (.ireturn, 1) := by decide +kernel
theorem dX5_readItem_47 : decode cX5_readItem 47 = .ok (.aload_n 0, 1) := by decide +kernel
theorem dX5_readItem_48 : decode cX5_readItem 48 = .ok (.invokevirtual 27, 3) := by decide +kernel
theorem dX5_readItem_51 : decode cX5_readItem 51 = .ok (.aload_n 0, 1) := by decide +kernel
theorem dX5_readItem_52 : decode cX5_readItem 52 = .ok (.aload_n 1, 1) := by decide +kernel
theorem dX5_readItem_53 : decode cX5_readItem 53 = .ok (.iload_n 2, 1) := by decide +kernel
theorem dX5_readItem_54 : decode cX5_readItem 54 = .ok (.invokevirtual 56, 3) := by decide +kernel
theorem dX5_readItem_57 : decode cX5_readItem 57 = .ok (.ifCond .ne 5, 3) := by decide +kernel
theorem dX5_readItem_60 : decode cX5_readItem 60 = .ok (.iconst 0, 1) := by decide +kernel
theorem dX5_readItem_61 : decode cX5_readItem 61 = .ok (.ireturn, 1) := by decide +kernel
theorem dX5_readItem_62 : decode cX5_readItem 62 = .ok (.aload_n 0, 1) := by decide +kernel
theorem dX5_readItem_63 : decode cX5_readItem 63 = .ok (.invokevirtual 27, 3) := by decide +kernel
theorem dX5_readItem_66 : decode cX5_readItem 66 = .ok (.aload_n 0, 1) := by decide +kernel
theorem dX5_readItem_67 : decode cX5_readItem 67 = .ok (.getfield 30, 3) := by decide +kernel
theorem dX5_readItem_70 : decode cX5_readItem 70 = .ok (.iconst 3, 1) := by decide +kernel
theorem dX5_readItem_71 : decode cX5_readItem 71 = .ok (.if_icmp .ne 7, 3) := by decide +kernel
theorem dX5_readItem_74 : decode cX5_readItem 74 = .ok (.iconst 1, 1) := by decide +kernel
theorem dX5_readItem_75 : decode cX5_readItem 75 = .ok (.goto 4, 3) := by decide +kernel
theorem dX5_readItem_78 : decode cX5_readItem 78 = .ok (.iconst 0, 1) := by decide +kernel
theorem dX5_readItem_79 : decode cX5_readItem 79 = .ok (.ireturn, 1) := by decide +kernel
theorem dX5_readFrame_0 : decode cX5_readFrame 0 = .ok (.aload_n 0, 1) := by decide +kernel
theorem dX5_readFrame_1 : decode cX5_readFrame 1 = .ok (.getfield 24, 3) := by decide +kernel
theorem dX5_readFrame_4 : decode cX5_readFrame 4 = .ok (.aload_n 0, 1) := by decide +kernel
theorem dX5_readFrame_5 : decode cX5_readFrame 5 = .ok (.getfield 40, 3) := by decide +kernel
theorem dX5_readFrame_8 : decode cX5_readFrame 8 = .ok (.isub, 1) := by decide +kernel
theorem dX5_readFrame_9 : decode cX5_readFrame 9 = .ok (.istore_n 2, 1) := by decide +kernel
theorem dX5_readFrame_10 : decode cX5_readFrame 10 = .ok (.aload_n 0, 1) := by decide +kernel
theorem dX5_readFrame_11 : decode cX5_readFrame 11 = .ok (.getfield 30, 3) := by decide +kernel
theorem dX5_readFrame_14 : decode cX5_readFrame 14 = .ok (.iconst 2, 1) := by decide +kernel
theorem dX5_readFrame_15 : decode cX5_readFrame 15 = .ok (.if_icmp .ne 14, 3) := by decide +kernel
theorem dX5_readFrame_18 : decode cX5_readFrame 18 = .ok (.iload_n 2, 1) := by decide +kernel
theorem dX5_readFrame_19 : decode cX5_readFrame 19 = .ok (.iconst 3, 1) := by decide +kernel
theorem dX5_readFrame_20 : decode cX5_readFrame 20 = .ok (.if_icmp .lt 9, 3) := by decide +kernel
theorem dX5_readFrame_23 : decode cX5_readFrame 23 = .ok (.iload_n 2, 1) := by decide +kernel
theorem dX5_readFrame_24 : decode cX5_readFrame 24 = .ok (.bipush 12, 2) := by decide +kernel
theorem dX5_readFrame_26 : decode cX5_readFrame 26 = .ok (.if_icmp .le 5, 3) := by decide +kernel
theorem dX5_readFrame_29 : decode cX5_readFrame 29 = .ok (.iconst 0, 1) := by decide +kernel
theorem dX5_readFrame_30 : decode cX5_readFrame 30 = .ok (.ireturn, 1) := by decide +kernel
theorem dX5_readFrame_31 : decode cX5_readFrame 31 = .ok (.aload_n 1, 1) := by decide +kernel
theorem dX5_readFrame_32 : decode cX5_readFrame 32 = .ok (.getfield 33, 3) := by decide +kernel
theorem dX5_readFrame_35 : decode cX5_readFrame 35 = .ok (.ifCond .le 13, 3) := by decide +kernel
theorem dX5_readFrame_38 : decode cX5_readFrame 38 = .ok (.iload_n 2, 1) := by decide +kernel
theorem dX5_readFrame_39 : decode cX5_readFrame 39 = .ok (.aload_n 1, 1) := by decide +kernel
theorem dX5_readFrame_40 : decode cX5_readFrame 40 = .ok (.getfield 60, 3) := by decide +kernel
theorem dX5_readFrame_43 : decode cX5_readFrame 43 = .ok (.if_icmp .eq 5, 3) := by decide +kernel
theorem dX5_readFrame_46 : decode cX5_readFrame 46 = .ok (.iconst 0, 1) := by decide +kernel
theorem dX5_readFrame_47 : decode cX5_readFrame 47 = .ok (.ireturn, 1) := by decide +kernel
theorem dX5_readFrame_48 : decode cX5_readFrame 48 = .ok (.aload_n 1, 1) := by decide +kernel
theorem dX5_readFrame_49 : decode cX5_readFrame 49 = .ok (.iload_n 2, 1) := by decide +kernel
theorem dX5_readFrame_50 : decode cX5_readFrame 50 = .ok (.putfield 60, 3) := by decide +kernel
theorem dX5_readFrame_53 : decode cX5_readFrame 53 = .ok (.aload_n 1, 1) := by decide +kernel
theorem dX5_readFrame_54 : decode cX5_readFrame 54 = .ok (.dup, 1) := by decide +kernel
theorem dX5_readFrame_55 : decode cX5_readFrame 55 = .ok (.getfield 33, 3) := by decide +kernel
theorem dX5_readFrame_58 : decode cX5_readFrame 58 = .ok (.iconst 1, 1) := by decide +kernel
theorem dX5_readFrame_59 : decode cX5_readFrame 59 = .ok (.iadd, 1) := by decide +kernel
theorem dX5_readFrame_60 : decode cX5_readFrame 60 = .ok (.putfield 33, 3) := by decide +kernel
theorem dX5_readFrame_63 : decode cX5_readFrame 63 = .ok (.iconst 0, 1) := by decide +kernel
theorem dX5_readFrame_64 : decode cX5_readFrame 64 = .ok (.istore_n 3, 1) := by decide +kernel
theorem dX5_readFrame_65 : decode cX5_readFrame 65 = .ok (.iload_n 3, 1) := by decide +kernel
theorem dX5_readFrame_66 : decode cX5_readFrame 66 = .ok (.iload_n 2, 1) := by decide +kernel
theorem dX5_readFrame_67 : decode cX5_readFrame 67 = .ok (.if_icmp .ge 30, 3) := by decide +kernel
theorem dX5_readFrame_70 : decode cX5_readFrame 70 = .ok (.aload_n 1, 1) := by decide +kernel
theorem dX5_readFrame_71 : decode cX5_readFrame 71 = .ok (.aload_n 1, 1) := by decide +kernel
theorem dX5_readFrame_72 : decode cX5_readFrame 72 = .ok (.getfield 33, 3) := by decide +kernel
theorem dX5_readFrame_75 : decode cX5_readFrame 75 = .ok (.iconst 1, 1) := by decide +kernel
theorem dX5_readFrame_76 : decode cX5_readFrame 76 = .ok (.isub, 1) := by decide +kernel
theorem dX5_readFrame_77 : decode cX5_readFrame 77 = .ok (.iload_n 3, 1) := by decide +kernel
theorem dX5_readFrame_78 : decode cX5_readFrame 78 = .ok (.aload_n 0, 1) := by decide +kernel
theorem dX5_readFrame_79 : decode cX5_readFrame 79 = .ok (.aload_n 0, 1) := by decide +kernel
theorem dX5_readFrame_80 : decode cX5_readFrame 80 = .ok (.getfield 40, 3) := by decide +kernel
theorem dX5_readFrame_83 : decode cX5_readFrame 83 = .ok (.iload_n 3, 1) := by decide +kernel
theorem dX5_readFrame_84 : decode cX5_readFrame 84 = .ok (.iadd, 1) := by decide +kernel
theorem dX5_readFrame_85 : decode cX5_readFrame 85 = .ok (.invokevirtual 63, 3) := by decide +kernel
theorem dX5_readFrame_88 : decode cX5_readFrame 88 = .ok (.invokevirtual 67, 3) := by decide +kernel
theorem dX5_readFrame_91 : decode cX5_readFrame 91 = .ok (.iinc 3 1, 3) := by decide +kernel
theorem dX5_readFrame_94 : decode cX5_readFrame 94 = .ok (.goto (-29), 3) := by decide +kernel
theorem dX5_readFrame_97 : decode cX5_readFrame 97 = .ok (.iconst 1, 1) := by decide +kernel
theorem dX5_readFrame_98 : decode cX5_readFrame 98 = .ok (.ireturn, 1) := by decide +kernel
theorem dX5_readSetting_0 : decode cX5_readSetting 0 = .ok (.aload_n 0, 1) := by decide +kernel
theorem dX5_readSetting_1 : decode cX5_readSetting 1 = .ok (.getfield 24, 3) := by decide +kernel
theorem dX5_readSetting_4 : decode cX5_readSetting 4 = .ok (.aload_n 0, 1) := by decide +kernel
theorem dX5_readSetting_5 : decode cX5_readSetting 5 = .ok (.getfield 40, 3) := by decide +kernel
theorem dX5_readSetting_8 : decode cX5_readSetting 8 = .ok (.isub, 1) := by decide +kernel
theorem dX5_readSetting_9 : decode cX5_readSetting 9 = .ok (.istore_n 3, 1) := by decide +kernel
theorem dX5_readSetting_10 : decode cX5_readSetting 10 = .ok (.aload_n 0, 1) := by decide +kernel
theorem dX5_readSetting_11 : decode cX5_readSetting 11 = .ok (.getfield 30, 3) := by decide +kernel
theorem dX5_readSetting_14 : decode cX5_readSetting 14 = .ok (.iconst 2, 1) := by decide +kernel
theorem dX5_readSetting_15 : decode cX5_readSetting 15 = .ok (.if_icmp .ne 8, 3) := by decide +kernel
theorem dX5_readSetting_18 : decode cX5_readSetting 18 = .ok (.iload_n 3, 1) := by decide +kernel
theorem dX5_readSetting_19 : decode cX5_readSetting 19 = .ok (.iconst 2, 1) := by decide +kernel
theorem dX5_readSetting_20 : decode cX5_readSetting 20 = .ok (.if_icmp .le 5, 3) := by decide +kernel
theorem dX5_readSetting_23 : decode cX5_readSetting 23 = .ok (.iconst 0, 1) := by decide +kernel
theorem dX5_readSetting_24 : decode cX5_readSetting 24 = .ok (.ireturn, 1) := by decide +kernel
theorem dX5_readSetting_25 : decode cX5_readSetting 25 = .ok (.aload_n 0, 1) := by decide +kernel
theorem dX5_readSetting_26 : decode cX5_readSetting 26 = .ok (.aload_n 0, 1) := by decide +kernel
theorem dX5_readSetting_27 : decode cX5_readSetting 27 = .ok (.getfield 40, 3) := by decide +kernel
theorem dX5_readSetting_30 : decode cX5_readSetting 30 = .ok (.invokevirtual 63, 3) := by decide +kernel
theorem dX5_readSetting_33 : decode cX5_readSetting 33 = .ok (.istore 4, 2) := by decide +kernel
theorem dX5_readSetting_35 : decode cX5_readSetting 35 = .ok (.iload_n 3, 1) := by decide +kernel
theorem dX5_readSetting_36 : decode cX5_readSetting 36 = .ok (.iconst 2, 1) := by decide +kernel
theorem dX5_readSetting_37 : decode cX5_readSetting 37 = .ok (.if_icmp .ne 28, 3) := by decide +kernel
theorem dX5_readSetting_40 : decode cX5_readSetting 40 = .ok (.iload 4, 2) := by decide +kernel
theorem dX5_readSetting_42 : decode cX5_readSetting 42 = .ok (.ifCond .ne 5, 3) := by decide +kernel
theorem dX5_readSetting_45 : decode cX5_readSetting 45 = .ok (.iconst 0, 1) := by decide +kernel
theorem dX5_readSetting_46 : decode cX5_readSetting 46 = .ok (.ireturn, 1) := by decide +kernel
theorem dX5_readSetting_47 : decode cX5_readSetting 47 = .ok (.bipush 10, 2) := by decide +kernel
theorem dX5_readSetting_49 : decode cX5_readSetting 49 = .ok (.iload 4, 2) := by decide +kernel
theorem dX5_readSetting_51 : decode cX5_readSetting 51 = .ok (.imul, 1) := by decide +kernel
theorem dX5_readSetting_52 : decode cX5_readSetting 52 = .ok (.aload_n 0, 1) := by decide +kernel
theorem dX5_readSetting_53 : decode cX5_readSetting 53 = .ok (.aload_n 0, 1) := by decide +kernel
theorem dX5_readSetting_54 : decode cX5_readSetting 54 = .ok (.getfield 40, 3) := by decide +kernel
theorem dX5_readSetting_57 : decode cX5_readSetting 57 = .ok (.iconst 1, 1) := by decide +kernel
theorem dX5_readSetting_58 : decode cX5_readSetting 58 = .ok (.iadd, 1) := by decide +kernel
theorem dX5_readSetting_59 : decode cX5_readSetting 59 = .ok (.invokevirtual 63, 3) := by decide +kernel
theorem dX5_readSetting_62 : decode cX5_readSetting 62 = .ok (.iadd, 1) := by decide +kernel
theorem dX5_readSetting_63 : decode cX5_readSetting 63 = .ok (.istore 4, 2) := by decide +kernel
theorem dX5_readSetting_65 : decode cX5_readSetting 65 = .ok (.iload_n 2, 1) := by decide +kernel
theorem dX5_readSetting_66 : decode cX5_readSetting 66 = .ok (.iload 4, 2) := by decide +kernel
theorem dX5_readSetting_68 : decode cX5_readSetting 68 = .ok (.invokestatic 71, 3) := by decide +kernel
theorem dX5_readSetting_71 : decode cX5_readSetting 71 = .ok (.ifCond .ne 5, 3) := by decide +kernel
theorem dX5_readSetting_74 : decode cX5_readSetting 74 = .ok (.iconst 0, 1) := by decide +kernel
theorem dX5_readSetting_75 : decode cX5_readSetting 75 = .ok (.ireturn, 1) := by decide +kernel
theorem dX5_readSetting_76 : decode cX5_readSetting 76 = .ok (.aload_n 1, 1) := by decide +kernel
theorem dX5_readSetting_77 : decode cX5_readSetting 77 = .ok (.getfield 75, 3) := by decide +kernel
theorem dX5_readSetting_80 : decode cX5_readSetting 80 = .ok (.iload_n 2, 1) := by decide +kernel
theorem dX5_readSetting_81 : decode cX5_readSetting 81 = .ok (.iload 4, 2) := by decide +kernel
theorem dX5_readSetting_83 : decode cX5_readSetting 83 = .ok (.iastore, 1) := by decide +kernel
theorem dX5_readSetting_84 : decode cX5_readSetting 84 = .ok (.iconst 1, 1) := by decide +kernel
theorem dX5_readSetting_85 : decode cX5_readSetting 85 = .ok (.ireturn, 1) := by decide +kernel
theorem dX5_namedSetting_0 : decode cX5_namedSetting 0 = .ok (.aload_n 0, 1) := by decide +kernel
theorem dX5_namedSetting_1 : decode cX5_namedSetting 1 = .ok (.ldc 79, 2) := by decide +kernel
theorem dX5_namedSetting_3 : decode cX5_namedSetting 3 = .ok (.invokevirtual 45, 3) := by decide +kernel
theorem dX5_namedSetting_6 : decode cX5_namedSetting 6 = .ok (.ifCond .eq 5, 3) := by decide +kernel
theorem dX5_namedSetting_9 : decode cX5_namedSetting 9 = .ok (.iconst 0, 1) := by decide +kernel
theorem dX5_namedSetting_10 : decode cX5_namedSetting 10 = .ok (.ireturn, 1) := by decide +kernel
theorem dX5_namedSetting_11 : decode cX5_namedSetting 11 = .ok (.aload_n 0, 1) := by decide +kernel
theorem dX5_namedSetting_12 : decode cX5_namedSetting 12 = .ok (.ldc 81, 2) := by decide +kernel
theorem dX5_namedSetting_14 : decode cX5_namedSetting 14 = .ok (.invokevirtual 45, 3) := by decide +kernel
theorem dX5_namedSetting_17 : decode cX5_namedSetting 17 = .ok (.ifCond .eq 5, 3) := by decide +kernel
theorem dX5_namedSetting_20 : decode cX5_namedSetting 20 = .ok (.iconst 1, 1) := by decide +kernel
theorem dX5_namedSetting_21 : decode cX5_namedSetting 21 = .ok (.ireturn, 1) := by decide +kernel
theorem dX5_namedSetting_22 : decode cX5_namedSetting 22 = .ok (.aload_n 0, 1) := by decide +kernel
theorem dX5_namedSetting_23 : decode cX5_namedSetting 23 = .ok (.ldc 83, 2) := by decide +kernel
theorem dX5_namedSetting_25 : decode cX5_namedSetting 25 = .ok (.invokevirtual 45, 3) := by decide +kernel
theorem dX5_namedSetting_28 : decode cX5_namedSetting 28 = .ok (.ifCond .eq 7, 3) := by decide +kernel
theorem dX5_namedSetting_31 : decode cX5_namedSetting 31 = .ok (.iconst 2, 1) := by decide +kernel
theorem dX5_namedSetting_32 : decode cX5_namedSetting 32 = .ok (.goto 5, 3) := by decide +kernel
theorem dX5_namedSetting_35 : decode cX5_namedSetting 35 = .ok (.bipush (-9), 2) := by decide +kernel
theorem dX5_namedSetting_37 : decode cX5_namedSetting 37 = .ok (.ireturn, 1) := by decide +kernel
theorem dX5_nextToken_0 : decode cX5_nextToken 0 = .ok (.aload_n 0, 1) := by decide +kernel
theorem dX5_nextToken_1 : decode cX5_nextToken 1 = .ok (.getfield 24, 3) := by decide +kernel
theorem dX5_nextToken_4 : decode cX5_nextToken 4 = .ok (.istore_n 1, 1) := by decide +kernel
theorem dX5_nextToken_5 : decode cX5_nextToken 5 = .ok (.iload_n 1, 1) := by decide +kernel
theorem dX5_nextToken_6 : decode cX5_nextToken 6 = .ok (.aload_n 0, 1) := by decide +kernel
theorem dX5_nextToken_7 : decode cX5_nextToken 7 = .ok (.getfield 15, 3) := by decide +kernel
theorem dX5_nextToken_10 : decode cX5_nextToken 10 = .ok (.if_icmp .ge 20, 3) := by decide +kernel
theorem dX5_nextToken_13 : decode cX5_nextToken 13 = .ok (.aload_n 0, 1) := by decide +kernel
theorem dX5_nextToken_14 : decode cX5_nextToken 14 = .ok (.getfield 9, 3) := by decide +kernel
theorem dX5_nextToken_17 : decode cX5_nextToken 17 = .ok (.iload_n 1, 1) := by decide +kernel
theorem dX5_nextToken_18 : decode cX5_nextToken 18 = .ok (.caload, 1) := by decide +kernel
theorem dX5_nextToken_19 : decode cX5_nextToken 19 = .ok (.bipush 32, 2) := by decide +kernel
theorem dX5_nextToken_21 : decode cX5_nextToken 21 = .ok (.if_icmp .ne 9, 3) := by decide +kernel
theorem dX5_nextToken_24 : decode cX5_nextToken 24 = .ok (.iinc 1 1, 3) := by decide +kernel
theorem dX5_nextToken_27 : decode cX5_nextToken 27 = .ok (.goto (-22), 3) := by decide +kernel
theorem dX5_nextToken_30 : decode cX5_nextToken 30 = .ok (.aload_n 0, 1) := by decide +kernel
theorem dX5_nextToken_31 : decode cX5_nextToken 31 = .ok (.iload_n 1, 1) := by decide +kernel
theorem dX5_nextToken_32 : decode cX5_nextToken 32 = .ok (.putfield 40, 3) := by decide +kernel
theorem dX5_nextToken_35 : decode cX5_nextToken 35 = .ok (.aload_n 0, 1) := by decide +kernel
theorem dX5_nextToken_36 : decode cX5_nextToken 36 = .ok (.aload_n 0, 1) := by decide +kernel
theorem dX5_nextToken_37 : decode cX5_nextToken 37 = .ok (.iload_n 1, 1) := by decide +kernel
theorem dX5_nextToken_38 : decode cX5_nextToken 38 = .ok (.invokevirtual 85, 3) := by decide +kernel
theorem dX5_nextToken_41 : decode cX5_nextToken 41 = .ok (.putfield 30, 3) := by decide +kernel
theorem dX5_nextToken_44 : decode cX5_nextToken 44 = .ok (.aload_n 0, 1) := by decide +kernel
theorem dX5_nextToken_45 : decode cX5_nextToken 45 = .ok (.getfield 30, 3) := by decide +kernel
theorem dX5_nextToken_48 : decode cX5_nextToken 48 = .ok (.ifCond .eq 6, 3) := by decide +kernel
theorem dX5_nextToken_51 : decode cX5_nextToken 51 = .ok (.iinc 1 1, 3) := by decide +kernel
theorem dX5_nextToken_54 : decode cX5_nextToken 54 = .ok (.aload_n 0, 1) := by decide +kernel
theorem dX5_nextToken_55 : decode cX5_nextToken 55 = .ok (.getfield 30, 3) := by decide +kernel
theorem dX5_nextToken_58 : decode cX5_nextToken 58 = .ok (.iconst 1, 1) := by decide +kernel
theorem dX5_nextToken_59 : decode cX5_nextToken 59 = .ok (.if_icmp .eq 11, 3) := by decide +kernel
theorem dX5_nextToken_62 : decode cX5_nextToken 62 = .ok (.aload_n 0, 1) := by decide +kernel
theorem dX5_nextToken_63 : decode cX5_nextToken 63 = .ok (.getfield 30, 3) := by decide +kernel
theorem dX5_nextToken_66 : decode cX5_nextToken 66 = .ok (.iconst 2, 1) := by decide +kernel
theorem dX5_nextToken_67 : decode cX5_nextToken 67 = .ok (.if_icmp .ne 29, 3) := by decide +kernel
theorem dX5_nextToken_70 : decode cX5_nextToken 70 = .ok (.iload_n 1, 1) := by decide +kernel
theorem dX5_nextToken_71 : decode cX5_nextToken 71 = .ok (.aload_n 0, 1) := by decide +kernel
theorem dX5_nextToken_72 : decode cX5_nextToken 72 = .ok (.getfield 15, 3) := by decide +kernel
theorem dX5_nextToken_75 : decode cX5_nextToken 75 = .ok (.if_icmp .ge 21, 3) := by decide +kernel
theorem dX5_nextToken_78 : decode cX5_nextToken 78 = .ok (.aload_n 0, 1) := by decide +kernel
theorem dX5_nextToken_79 : decode cX5_nextToken 79 = .ok (.iload_n 1, 1) := by decide +kernel
theorem dX5_nextToken_80 : decode cX5_nextToken 80 = .ok (.invokevirtual 85, 3) := by decide +kernel
theorem dX5_nextToken_83 : decode cX5_nextToken 83 = .ok (.aload_n 0, 1) := by decide +kernel
theorem dX5_nextToken_84 : decode cX5_nextToken 84 = .ok (.getfield 30, 3) := by decide +kernel
theorem dX5_nextToken_87 : decode cX5_nextToken 87 = .ok (.if_icmp .ne 9, 3) := by decide +kernel
theorem dX5_nextToken_90 : decode cX5_nextToken 90 = .ok (.iinc 1 1, 3) := by decide +kernel
theorem dX5_nextToken_93 : decode cX5_nextToken 93 = .ok (.goto (-23), 3) := by decide +kernel
theorem dX5_nextToken_96 : decode cX5_nextToken 96 = .ok (.aload_n 0, 1) := by decide +kernel
theorem dX5_nextToken_97 : decode cX5_nextToken 97 = .ok (.iload_n 1, 1) := by decide +kernel
theorem dX5_nextToken_98 : decode cX5_nextToken 98 = .ok (.putfield 24, 3) := by decide +kernel
theorem dX5_nextToken_101 : decode cX5_nextToken 101 = .ok (.return_, 1) := by decide +kernel
theorem dX5_kindAt_0 : decode cX5_kindAt 0 = .ok (.iload_n 1, 1) := by decide +kernel
theorem dX5_kindAt_1 : decode cX5_kindAt 1 = .ok (.ifCond .lt 11, 3) := by decide +kernel
theorem dX5_kindAt_4 : decode cX5_kindAt 4 = .ok (.iload_n 1, 1) := by decide +kernel
theorem dX5_kindAt_5 : decode cX5_kindAt 5 = .ok (.aload_n 0, 1) := by decide +kernel
theorem dX5_kindAt_6 : decode cX5_kindAt 6 = .ok (.getfield 15, 3) := by decide +kernel
theorem dX5_kindAt_9 : decode cX5_kindAt 9 = .ok (.if_icmp .lt 5, 3) := by decide +kernel
theorem dX5_kindAt_12 : decode cX5_kindAt 12 = .ok (.iconst 0, 1) := by decide +kernel
theorem dX5_kindAt_13 : decode cX5_kindAt 13 = .ok (.ireturn, 1) := by decide +kernel
theorem dX5_kindAt_14 : decode cX5_kindAt 14 = .ok (.aload_n 0, 1) := by decide +kernel
theorem dX5_kindAt_15 : decode cX5_kindAt 15 = .ok (.getfield 9, 3) := by decide +kernel
theorem dX5_kindAt_18 : decode cX5_kindAt 18 = .ok (.iload_n 1, 1) := by decide +kernel
theorem dX5_kindAt_19 : decode cX5_kindAt 19 = .ok (.caload, 1) := by decide +kernel
theorem dX5_kindAt_20 : decode cX5_kindAt 20 = .ok (.istore_n 2, 1) := by decide +kernel
theorem dX5_kindAt_21 : decode cX5_kindAt 21 = .ok (.iload_n 2, 1) := by decide +kernel
theorem dX5_kindAt_22 : decode cX5_kindAt 22 = .ok (.bipush 97, 2) := by decide +kernel
theorem dX5_kindAt_24 : decode cX5_kindAt 24 = .ok (.if_icmp .lt 11, 3) := by decide +kernel
theorem dX5_kindAt_27 : decode cX5_kindAt 27 = .ok (.iload_n 2, 1) := by decide +kernel
theorem dX5_kindAt_28 : decode cX5_kindAt 28 = .ok (.bipush 122, 2) := by decide +kernel
theorem dX5_kindAt_30 : decode cX5_kindAt 30 = .ok (.if_icmp .gt 5, 3) := by decide +kernel
theorem dX5_kindAt_33 : decode cX5_kindAt 33 = .ok (.iconst 1, 1) := by decide +kernel
theorem dX5_kindAt_34 : decode cX5_kindAt 34 = .ok (.ireturn, 1) := by decide +kernel
theorem dX5_kindAt_35 : decode cX5_kindAt 35 = .ok (.iload_n 2, 1) := by decide +kernel
theorem dX5_kindAt_36 : decode cX5_kindAt 36 = .ok (.bipush 48, 2) := by decide +kernel
theorem dX5_kindAt_38 : decode cX5_kindAt 38 = .ok (.if_icmp .lt 11, 3) := by decide +kernel
theorem dX5_kindAt_41 : decode cX5_kindAt 41 = .ok (.iload_n 2, 1) := by decide +kernel
theorem dX5_kindAt_42 : decode cX5_kindAt 42 = .ok (.bipush 57, 2) := by decide +kernel
theorem dX5_kindAt_44 : decode cX5_kindAt 44 = .ok (.if_icmp .gt 5, 3) := by decide +kernel
theorem dX5_kindAt_47 : decode cX5_kindAt 47 = .ok (.iconst 2, 1) := by decide +kernel
theorem dX5_kindAt_48 : decode cX5_kindAt 48 = .ok (.ireturn, 1) := by decide +kernel
theorem dX5_kindAt_49 : decode cX5_kindAt 49 = .ok (.iload_n 2, 1) := by decide +kernel
theorem dX5_kindAt_50 : decode cX5_kindAt 50 = .ok (.bipush 59, 2) := by decide +kernel
theorem dX5_kindAt_52 : decode cX5_kindAt 52 = .ok (.if_icmp .ne 7, 3) := by decide +kernel
theorem dX5_kindAt_55 : decode cX5_kindAt 55 = .ok (.iconst 3, 1) := by decide +kernel
theorem dX5_kindAt_56 : decode cX5_kindAt 56 = .ok (.goto 4, 3) := by decide +kernel
theorem dX5_kindAt_59 : decode cX5_kindAt 59 = .ok (.iconst 4, 1) := by decide +kernel
theorem dX5_kindAt_60 : decode cX5_kindAt 60 = .ok (.ireturn, 1) := by decide +kernel
theorem dX5_figureAt_0 : decode cX5_figureAt 0 = .ok (.aload_n 0, 1) := by decide +kernel
theorem dX5_figureAt_1 : decode cX5_figureAt 1 = .ok (.iload_n 1, 1) := by decide +kernel
theorem dX5_figureAt_2 : decode cX5_figureAt 2 = .ok (.invokevirtual 85, 3) := by decide +kernel
theorem dX5_figureAt_5 : decode cX5_figureAt 5 = .ok (.iconst 2, 1) := by decide +kernel
theorem dX5_figureAt_6 : decode cX5_figureAt 6 = .ok (.if_icmp .ne 15, 3) := by decide +kernel
theorem dX5_figureAt_9 : decode cX5_figureAt 9 = .ok (.aload_n 0, 1) := by decide +kernel
theorem dX5_figureAt_10 : decode cX5_figureAt 10 = .ok (.getfield 9, 3) := by decide +kernel
theorem dX5_figureAt_13 : decode cX5_figureAt 13 = .ok (.iload_n 1, 1) := by decide +kernel
theorem dX5_figureAt_14 : decode cX5_figureAt 14 = .ok (.caload, 1) := by decide +kernel
theorem dX5_figureAt_15 : decode cX5_figureAt 15 = .ok (.bipush 48, 2) := by decide +kernel
theorem dX5_figureAt_17 : decode cX5_figureAt 17 = .ok (.isub, 1) := by decide +kernel
theorem dX5_figureAt_18 : decode cX5_figureAt 18 = .ok (.goto 4, 3) := by decide +kernel
theorem dX5_figureAt_21 : decode cX5_figureAt 21 = .ok (.iconst 0, 1) := by decide +kernel
theorem dX5_figureAt_22 : decode cX5_figureAt 22 = .ok (.ireturn, 1) := by decide +kernel
theorem dX5_isWord_0 : decode cX5_isWord 0 = .ok (.aload_n 0, 1) := by decide +kernel
theorem dX5_isWord_1 : decode cX5_isWord 1 = .ok (.getfield 30, 3) := by decide +kernel
theorem dX5_isWord_4 : decode cX5_isWord 4 = .ok (.iconst 1, 1) := by decide +kernel
theorem dX5_isWord_5 : decode cX5_isWord 5 = .ok (.if_icmp .ne 19, 3) := by decide +kernel
theorem dX5_isWord_8 : decode cX5_isWord 8 = .ok (.aload_n 0, 1) := by decide +kernel
theorem dX5_isWord_9 : decode cX5_isWord 9 = .ok (.getfield 24, 3) := by decide +kernel
theorem dX5_isWord_12 : decode cX5_isWord 12 = .ok (.aload_n 0, 1) := by decide +kernel
theorem dX5_isWord_13 : decode cX5_isWord 13 = .ok (.getfield 40, 3) := by decide +kernel
theorem dX5_isWord_16 : decode cX5_isWord 16 = .ok (.isub, 1) := by decide +kernel
theorem dX5_isWord_17 : decode cX5_isWord 17 = .ok (.aload_n 1, 1) := by decide +kernel
theorem dX5_isWord_18 : decode cX5_isWord 18 = .ok (.invokevirtual 88, 3) := by decide +kernel
theorem dX5_isWord_21 : decode cX5_isWord 21 = .ok (.if_icmp .eq 5, 3) := by decide +kernel
theorem dX5_isWord_24 : decode cX5_isWord 24 = .ok (.iconst 0, 1) := by decide +kernel
theorem dX5_isWord_25 : decode cX5_isWord 25 = .ok (.ireturn, 1) := by decide +kernel
theorem dX5_isWord_26 : decode cX5_isWord 26 = .ok (.iconst 0, 1) := by decide +kernel
theorem dX5_isWord_27 : decode cX5_isWord 27 = .ok (.istore_n 2, 1) := by decide +kernel
theorem dX5_isWord_28 : decode cX5_isWord 28 = .ok (.iload_n 2, 1) := by decide +kernel
theorem dX5_isWord_29 : decode cX5_isWord 29 = .ok (.aload_n 1, 1) := by decide +kernel
theorem dX5_isWord_30 : decode cX5_isWord 30 = .ok (.invokevirtual 88, 3) := by decide +kernel
theorem dX5_isWord_33 : decode cX5_isWord 33 = .ok (.if_icmp .ge 30, 3) := by decide +kernel
theorem dX5_isWord_36 : decode cX5_isWord 36 = .ok (.aload_n 0, 1) := by decide +kernel
theorem dX5_isWord_37 : decode cX5_isWord 37 = .ok (.getfield 9, 3) := by decide +kernel
theorem dX5_isWord_40 : decode cX5_isWord 40 = .ok (.aload_n 0, 1) := by decide +kernel
theorem dX5_isWord_41 : decode cX5_isWord 41 = .ok (.getfield 40, 3) := by decide +kernel
theorem dX5_isWord_44 : decode cX5_isWord 44 = .ok (.iload_n 2, 1) := by decide +kernel
theorem dX5_isWord_45 : decode cX5_isWord 45 = .ok (.iadd, 1) := by decide +kernel
theorem dX5_isWord_46 : decode cX5_isWord 46 = .ok (.caload, 1) := by decide +kernel
theorem dX5_isWord_47 : decode cX5_isWord 47 = .ok (.aload_n 1, 1) := by decide +kernel
theorem dX5_isWord_48 : decode cX5_isWord 48 = .ok (.iload_n 2, 1) := by decide +kernel
theorem dX5_isWord_49 : decode cX5_isWord 49 = .ok (.invokevirtual 92, 3) := by decide +kernel
theorem dX5_isWord_52 : decode cX5_isWord 52 = .ok (.if_icmp .eq 5, 3) := by decide +kernel
theorem dX5_isWord_55 : decode cX5_isWord 55 = .ok (.iconst 0, 1) := by decide +kernel
theorem dX5_isWord_56 : decode cX5_isWord 56 = .ok (.ireturn, 1) := by decide +kernel
theorem dX5_isWord_57 : decode cX5_isWord 57 = .ok (.iinc 2 1, 3) := by decide +kernel
theorem dX5_isWord_60 : decode cX5_isWord 60 = .ok (.goto (-32), 3) := by decide +kernel
theorem dX5_isWord_63 : decode cX5_isWord 63 = .ok (.iconst 1, 1) := by decide +kernel
theorem dX5_isWord_64 : decode cX5_isWord 64 = .ok (.ireturn, 1) := by decide +kernel
theorem dX6_init_0 : decode cX6_init 0 = .ok (.aload_n 0, 1) := by decide +kernel
theorem dX6_init_1 : decode cX6_init 1 = .ok (.invokespecial 3, 3) := by decide +kernel
theorem dX6_init_4 : decode cX6_init 4 = .ok (.aload_n 0, 1) := by decide +kernel
theorem dX6_init_5 : decode cX6_init 5 = .ok (.bipush 48, 2) := by decide +kernel
theorem dX6_init_7 : decode cX6_init 7 = .ok (.newarray .int, 2) := by decide +kernel
theorem dX6_init_9 : decode cX6_init 9 = .ok (.putfield 9, 3) := by decide +kernel
theorem dX6_init_12 : decode cX6_init 12 = .ok (.aload_n 0, 1) := by decide +kernel
theorem dX6_init_13 : decode cX6_init 13 = .ok (.bipush 48, 2) := by decide +kernel
theorem dX6_init_15 : decode cX6_init 15 = .ok (.newarray .int, 2) := by decide +kernel
theorem dX6_init_17 : decode cX6_init 17 = .ok (.putfield 15, 3) := by decide +kernel
theorem dX6_init_20 : decode cX6_init 20 = .ok (.aload_n 0, 1) := by decide +kernel
theorem dX6_init_21 : decode cX6_init 21 = .ok (.bipush 48, 2) := by decide +kernel
theorem dX6_init_23 : decode cX6_init 23 = .ok (.newarray .int, 2) := by decide +kernel
theorem dX6_init_25 : decode cX6_init 25 = .ok (.putfield 18, 3) := by decide +kernel
theorem dX6_init_28 : decode cX6_init 28 = .ok (.aload_n 0, 1) := by decide +kernel
theorem dX6_init_29 : decode cX6_init 29 = .ok (.bipush 48, 2) := by decide +kernel
theorem dX6_init_31 : decode cX6_init 31 = .ok (.newarray .int, 2) := by decide +kernel
theorem dX6_init_33 : decode cX6_init 33 = .ok (.putfield 21, 3) := by decide +kernel
theorem dX6_init_36 : decode cX6_init 36 = .ok (.aload_n 0, 1) := by decide +kernel
theorem dX6_init_37 : decode cX6_init 37 = .ok (.bipush 48, 2) := by decide +kernel
theorem dX6_init_39 : decode cX6_init 39 = .ok (.newarray .int, 2) := by decide +kernel
theorem dX6_init_41 : decode cX6_init 41 = .ok (.putfield 24, 3) := by decide +kernel
theorem dX6_init_44 : decode cX6_init 44 = .ok (.aload_n 0, 1) := by decide +kernel
theorem dX6_init_45 : decode cX6_init 45 = .ok (.bipush 48, 2) := by decide +kernel
theorem dX6_init_47 : decode cX6_init 47 = .ok (.newarray .int, 2) := by decide +kernel
theorem dX6_init_49 : decode cX6_init 49 = .ok (.putfield 27, 3) := by decide +kernel
theorem dX6_init_52 : decode cX6_init 52 = .ok (.aload_n 0, 1) := by decide +kernel
theorem dX6_init_53 : decode cX6_init 53 = .ok (.sipush 384, 3) := by decide +kernel
theorem dX6_init_56 : decode cX6_init 56 = .ok (.newarray .int, 2) := by decide +kernel
theorem dX6_init_58 : decode cX6_init 58 = .ok (.putfield 30, 3) := by decide +kernel
theorem dX6_init_61 : decode cX6_init 61 = .ok (.aload_n 0, 1) := by decide +kernel
theorem dX6_init_62 : decode cX6_init 62 = .ok (.bipush 48, 2) := by decide +kernel
theorem dX6_init_64 : decode cX6_init 64 = .ok (.newarray .int, 2) := by decide +kernel
theorem dX6_init_66 : decode cX6_init 66 = .ok (.putfield 33, 3) := by decide +kernel
theorem dX6_init_69 : decode cX6_init 69 = .ok (.aload_n 0, 1) := by decide +kernel
theorem dX6_init_70 : decode cX6_init 70 = .ok (.bipush 48, 2) := by decide +kernel
theorem dX6_init_72 : decode cX6_init 72 = .ok (.newarray .int, 2) := by decide +kernel
theorem dX6_init_74 : decode cX6_init 74 = .ok (.putfield 36, 3) := by decide +kernel
theorem dX6_init_77 : decode cX6_init 77 = .ok (.return_, 1) := by decide +kernel
theorem dX6_follow_0 : decode cX6_follow 0 = .ok (.aload_n 0, 1) := by decide +kernel
theorem dX6_follow_1 : decode cX6_follow 1 = .ok (.iconst 0, 1) := by decide +kernel
theorem dX6_follow_2 : decode cX6_follow 2 = .ok (.putfield 39, 3) := by decide +kernel
theorem dX6_follow_5 : decode cX6_follow 5 = .ok (.aload_n 0, 1) := by decide +kernel
theorem dX6_follow_6 : decode cX6_follow 6 = .ok (.getfield 30, 3) := by decide +kernel
theorem dX6_follow_9 : decode cX6_follow 9 = .ok (.bipush (-9), 2) := by decide +kernel
theorem dX6_follow_11 : decode cX6_follow 11 = .ok (.invokestatic 43, 3) := by decide +kernel
theorem dX6_follow_14 : decode cX6_follow 14 = .ok (.aload_n 0, 1) := by decide +kernel
theorem dX6_follow_15 : decode cX6_follow 15 = .ok (.getfield 33, 3) := by decide +kernel
theorem dX6_follow_18 : decode cX6_follow 18 = .ok (.bipush (-9), 2) := by decide +kernel
theorem dX6_follow_20 : decode cX6_follow 20 = .ok (.invokestatic 43, 3) := by decide +kernel
theorem dX6_follow_23 : decode cX6_follow 23 = .ok (.iconst 0, 1) := by decide +kernel
theorem dX6_follow_24 : decode cX6_follow 24 = .ok (.istore 4, 2) := by decide +kernel
theorem dX6_follow_26 : decode cX6_follow 26 = .ok (.iload 4, 2) := by decide +kernel
theorem dX6_follow_28 : decode cX6_follow 28 = .ok (.bipush 8, 2) := by decide +kernel
theorem dX6_follow_30 : decode cX6_follow 30 = .ok (.if_icmp .ge 92, 3) := by decide +kernel
theorem dX6_follow_33 : decode cX6_follow 33 = .ok (.aload_n 2, 1) := by decide +kernel
theorem dX6_follow_34 : decode cX6_follow 34 = .ok (.aload_n 1, 1) := by decide +kernel
theorem dX6_follow_35 : decode cX6_follow 35 = .ok (.iload 4, 2) := by decide +kernel
theorem dX6_follow_37 : decode cX6_follow 37 = .ok (.iload_n 3, 1) := by decide +kernel
theorem dX6_follow_38 : decode cX6_follow 38 = .ok (.invokevirtual 49, 3) := by decide +kernel
theorem dX6_follow_41 : decode cX6_follow 41 = .ok (.pop, 1) := by decide +kernel
theorem dX6_follow_42 : decode cX6_follow 42 = .ok (.iconst 0, 1) := by decide +kernel
theorem dX6_follow_43 : decode cX6_follow 43 = .ok (.istore 5, 2) := by decide +kernel
theorem dX6_follow_45 : decode cX6_follow 45 = .ok (.iload 5, 2) := by decide +kernel
theorem dX6_follow_47 : decode cX6_follow 47 = .ok (.aload_n 1, 1) := by decide +kernel
theorem dX6_follow_48 : decode cX6_follow 48 = .ok (.getfield 55, 3) := by decide +kernel
theorem dX6_follow_51 : decode cX6_follow 51 = .ok (.iload 4, 2) := by decide +kernel
theorem dX6_follow_53 : decode cX6_follow 53 = .ok (.iaload, 1) := by decide +kernel
theorem dX6_follow_54 : decode cX6_follow 54 = .ok (.if_icmp .ge 62, 3) := by decide +kernel
theorem dX6_follow_57 : decode cX6_follow 57 = .ok (.iload 4, 2) := by decide +kernel
theorem dX6_follow_59 : decode cX6_follow 59 = .ok (.bipush 6, 2) := by decide +kernel
theorem dX6_follow_61 : decode cX6_follow 61 = .ok (.imul, 1) := by decide +kernel
theorem dX6_follow_62 : decode cX6_follow 62 = .ok (.iload 5, 2) := by decide +kernel
theorem dX6_follow_64 : decode cX6_follow 64 = .ok (.iadd, 1) := by decide +kernel
theorem dX6_follow_65 : decode cX6_follow 65 = .ok (.istore 6, 2) := by decide +kernel
theorem dX6_follow_67 : decode cX6_follow 67 = .ok (.aload_n 0, 1) := by decide +kernel
theorem dX6_follow_68 : decode cX6_follow 68 = .ok (.getfield 33, 3) := by decide +kernel
theorem dX6_follow_71 : decode cX6_follow 71 = .ok (.iload 6, 2) := by decide +kernel
theorem dX6_follow_73 : decode cX6_follow 73 = .ok (.iaload, 1) := by decide +kernel
theorem dX6_follow_74 : decode cX6_follow 74 = .ok (.bipush (-9), 2) := by decide +kernel
theorem dX6_follow_76 : decode cX6_follow 76 = .ok (.if_icmp .ne 11, 3) := by decide +kernel
theorem dX6_follow_79 : decode cX6_follow 79 = .ok (.aload_n 0, 1) := by decide +kernel
theorem dX6_follow_80 : decode cX6_follow 80 = .ok (.iload 6, 2) := by decide +kernel
theorem dX6_follow_82 : decode cX6_follow 82 = .ok (.iload 4, 2) := by decide +kernel
theorem dX6_follow_84 : decode cX6_follow 84 = .ok (.invokevirtual 59, 3) := by decide +kernel
theorem dX6_follow_87 : decode cX6_follow 87 = .ok (.aload_n 0, 1) := by decide +kernel
theorem dX6_follow_88 : decode cX6_follow 88 = .ok (.getfield 36, 3) := by decide +kernel
theorem dX6_follow_91 : decode cX6_follow 91 = .ok (.iload 6, 2) := by decide +kernel
theorem dX6_follow_93 : decode cX6_follow 93 = .ok (.aload_n 2, 1) := by decide +kernel
theorem dX6_follow_94 : decode cX6_follow 94 = .ok (.getfield 63, 3) := by decide +kernel
theorem dX6_follow_97 : decode cX6_follow 97 = .ok (.iload 5, 2) := by decide +kernel
theorem dX6_follow_99 : decode cX6_follow 99 = .ok (.iaload, 1) := by decide +kernel
theorem dX6_follow_100 : decode cX6_follow 100 = .ok (.iastore, 1) := by decide +kernel
theorem dX6_follow_101 : decode cX6_follow 101 = .ok (.aload_n 0, 1) := by decide +kernel
theorem dX6_follow_102 : decode cX6_follow 102 = .ok (.aload_n 1, 1) := by decide +kernel
theorem dX6_follow_103 : decode cX6_follow 103 = .ok (.iload 6, 2) := by decide +kernel
theorem dX6_follow_105 : decode cX6_follow 105 = .ok (.iload 4, 2) := by decide +kernel
theorem dX6_follow_107 : decode cX6_follow 107 = .ok (.invokevirtual 66, 3) := by decide +kernel
theorem dX6_follow_110 : decode cX6_follow 110 = .ok (.iinc 5 1, 3) := by decide +kernel
theorem dX6_follow_113 : decode cX6_follow 113 = .ok (.goto (-68), 3) := by decide +kernel
theorem dX6_follow_116 : decode cX6_follow 116 = .ok (.iinc 4 1, 3) := by decide +kernel
theorem dX6_follow_119 : decode cX6_follow 119 = .ok (.goto (-93), 3) := by decide +kernel
theorem dX6_follow_122 : decode cX6_follow 122 = .ok (.iconst 0, 1) := by decide +kernel
theorem dX6_follow_123 : decode cX6_follow 123 = .ok (.istore 4, 2) := by decide +kernel
theorem dX6_follow_125 : decode cX6_follow 125 = .ok (.iload 4, 2) := by decide +kernel
theorem dX6_follow_127 : decode cX6_follow 127 = .ok (.aload_n 0, 1) := by decide +kernel
theorem dX6_follow_128 : decode cX6_follow 128 = .ok (.getfield 39, 3) := by decide +kernel
theorem dX6_follow_131 : decode cX6_follow 131 = .ok (.if_icmp .ge 15, 3) := by decide +kernel
theorem dX6_follow_134 : decode cX6_follow 134 = .ok (.aload_n 0, 1) := by decide +kernel
theorem dX6_follow_135 : decode cX6_follow 135 = .ok (.iload 4, 2) := by decide +kernel
theorem dX6_follow_137 : decode cX6_follow 137 = .ok (.invokevirtual 70, 3) := by decide +kernel
theorem dX6_follow_140 : decode cX6_follow 140 = .ok (.iinc 4 1, 3) := by decide +kernel
theorem dX6_follow_143 : decode cX6_follow 143 = .ok (.goto (-18), 3) := by decide +kernel
theorem dX6_follow_146 : decode cX6_follow 146 = .ok (.return_, 1) := by decide +kernel
theorem dX6_begin_0 : decode cX6_begin 0 = .ok (.aload_n 0, 1) := by decide +kernel
theorem dX6_begin_1 : decode cX6_begin 1 = .ok (.getfield 39, 3) := by decide +kernel
theorem dX6_begin_4 : decode cX6_begin 4 = .ok (.bipush 48, 2) := by decide +kernel
theorem dX6_begin_6 : decode cX6_begin 6 = .ok (.if_icmp .ge 53, 3) := by decide +kernel
theorem dX6_begin_9 : decode cX6_begin 9 = .ok (.aload_n 0, 1) := by decide +kernel
theorem dX6_begin_10 : decode cX6_begin 10 = .ok (.getfield 33, 3) := by decide +kernel
theorem dX6_begin_13 : decode cX6_begin 13 = .ok (.iload_n 1, 1) := by decide +kernel
theorem dX6_begin_14 : decode cX6_begin 14 = .ok (.aload_n 0, 1) := by decide +kernel
theorem dX6_begin_15 : decode cX6_begin 15 = .ok (.getfield 39, 3) := by decide +kernel
theorem dX6_begin_18 : decode cX6_begin 18 = .ok (.iastore, 1) := by decide +kernel
theorem dX6_begin_19 : decode cX6_begin 19 = .ok (.aload_n 0, 1) := by decide +kernel
theorem dX6_begin_20 : decode cX6_begin 20 = .ok (.getfield 9, 3) := by decide +kernel
theorem dX6_begin_23 : decode cX6_begin 23 = .ok (.aload_n 0, 1) := by decide +kernel
theorem dX6_begin_24 : decode cX6_begin 24 = .ok (.getfield 39, 3) := by decide +kernel
theorem dX6_begin_27 : decode cX6_begin 27 = .ok (.iload_n 2, 1) := by decide +kernel
theorem dX6_begin_28 : decode cX6_begin 28 = .ok (.iastore, 1) := by decide +kernel
theorem dX6_begin_29 : decode cX6_begin 29 = .ok (.aload_n 0, 1) := by decide +kernel
theorem dX6_begin_30 : decode cX6_begin 30 = .ok (.getfield 15, 3) := by decide +kernel
theorem dX6_begin_33 : decode cX6_begin 33 = .ok (.aload_n 0, 1) := by decide +kernel
theorem dX6_begin_34 : decode cX6_begin 34 = .ok (.getfield 39, 3) := by decide +kernel
theorem dX6_begin_37 : decode cX6_begin 37 = .ok (.iconst 0, 1) := by decide +kernel
theorem dX6_begin_38 : decode cX6_begin 38 = .ok (.iastore, 1) := by decide +kernel
theorem dX6_begin_39 : decode cX6_begin 39 = .ok (.aload_n 0, 1) := by decide +kernel
theorem dX6_begin_40 : decode cX6_begin 40 = .ok (.getfield 27, 3) := by decide +kernel
theorem dX6_begin_43 : decode cX6_begin 43 = .ok (.aload_n 0, 1) := by decide +kernel
theorem dX6_begin_44 : decode cX6_begin 44 = .ok (.getfield 39, 3) := by decide +kernel
theorem dX6_begin_47 : decode cX6_begin 47 = .ok (.iconst 0, 1) := by decide +kernel
theorem dX6_begin_48 : decode cX6_begin 48 = .ok (.iastore, 1) := by decide +kernel
theorem dX6_begin_49 : decode cX6_begin 49 = .ok (.aload_n 0, 1) := by decide +kernel
theorem dX6_begin_50 : decode cX6_begin 50 = .ok (.dup, 1) := by decide +kernel
theorem dX6_begin_51 : decode cX6_begin 51 = .ok (.getfield 39, 3) := by decide +kernel
theorem dX6_begin_54 : decode cX6_begin 54 = .ok (.iconst 1, 1) := by decide +kernel
theorem dX6_begin_55 : decode cX6_begin 55 = .ok (.iadd, 1) := by decide +kernel
theorem dX6_begin_56 : decode cX6_begin 56 = .ok (.putfield 39, 3) := by decide +kernel
theorem dX6_begin_59 : decode cX6_begin 59 = .ok (.return_, 1) := by decide +kernel
theorem dX6_addPeak_0 : decode cX6_addPeak 0 = .ok (.aload_n 0, 1) := by decide +kernel
theorem dX6_addPeak_1 : decode cX6_addPeak 1 = .ok (.getfield 33, 3) := by decide +kernel
theorem dX6_addPeak_4 : decode cX6_addPeak 4 = .ok (.iload_n 2, 1) := by decide +kernel
theorem dX6_addPeak_5 : decode cX6_addPeak 5 = .ok (.iaload, 1) := by decide +kernel
theorem dX6_addPeak_6 : decode cX6_addPeak 6 = .ok (.istore 4, 2) := by decide +kernel
theorem dX6_addPeak_8 : decode cX6_addPeak 8 = .ok (.iload 4, 2) := by decide +kernel
theorem dX6_addPeak_10 : decode cX6_addPeak 10 = .ok (.ifCond .lt 12, 3) := by decide +kernel
theorem dX6_addPeak_13 : decode cX6_addPeak 13 = .ok (.iload 4, 2) := by decide +kernel
theorem dX6_addPeak_15 : decode cX6_addPeak 15 = .ok (.aload_n 0, 1) := by decide +kernel
theorem dX6_addPeak_16 : decode cX6_addPeak 16 = .ok (.getfield 39, 3) := by decide +kernel
theorem dX6_addPeak_19 : decode cX6_addPeak 19 = .ok (.if_icmp .lt 4, 3) := by decide +kernel
theorem dX6_addPeak_22 : decode cX6_addPeak 22 = .ok (.return_, 1) := by decide +kernel
theorem dX6_addPeak_23 : decode cX6_addPeak 23 = .ok (.aload_n 0, 1) := by decide +kernel
theorem dX6_addPeak_24 : decode cX6_addPeak 24 = .ok (.getfield 15, 3) := by decide +kernel
theorem dX6_addPeak_27 : decode cX6_addPeak 27 = .ok (.iload 4, 2) := by decide +kernel
theorem dX6_addPeak_29 : decode cX6_addPeak 29 = .ok (.dup2, 1) := by decide +kernel
theorem dX6_addPeak_30 : decode cX6_addPeak 30 = .ok (.iaload, 1) := by decide +kernel
theorem dX6_addPeak_31 : decode cX6_addPeak 31 = .ok (.iconst 1, 1) := by decide +kernel
theorem dX6_addPeak_32 : decode cX6_addPeak 32 = .ok (.iadd, 1) := by decide +kernel
theorem dX6_addPeak_33 : decode cX6_addPeak 33 = .ok (.iastore, 1) := by decide +kernel
theorem dX6_addPeak_34 : decode cX6_addPeak 34 = .ok (.aload_n 0, 1) := by decide +kernel
theorem dX6_addPeak_35 : decode cX6_addPeak 35 = .ok (.getfield 27, 3) := by decide +kernel
theorem dX6_addPeak_38 : decode cX6_addPeak 38 = .ok (.iload 4, 2) := by decide +kernel
theorem dX6_addPeak_40 : decode cX6_addPeak 40 = .ok (.dup2, 1) := by decide +kernel
theorem dX6_addPeak_41 : decode cX6_addPeak 41 = .ok (.iaload, 1) := by decide +kernel
theorem dX6_addPeak_42 : decode cX6_addPeak 42 = .ok (.aload_n 1, 1) := by decide +kernel
theorem dX6_addPeak_43 : decode cX6_addPeak 43 = .ok (.getfield 74, 3) := by decide +kernel
theorem dX6_addPeak_46 : decode cX6_addPeak 46 = .ok (.iload_n 2, 1) := by decide +kernel
theorem dX6_addPeak_47 : decode cX6_addPeak 47 = .ok (.iaload, 1) := by decide +kernel
theorem dX6_addPeak_48 : decode cX6_addPeak 48 = .ok (.iadd, 1) := by decide +kernel
theorem dX6_addPeak_49 : decode cX6_addPeak 49 = .ok (.iastore, 1) := by decide +kernel
theorem dX6_addPeak_50 : decode cX6_addPeak 50 = .ok (.aload_n 0, 1) := by decide +kernel
theorem dX6_addPeak_51 : decode cX6_addPeak 51 = .ok (.getfield 30, 3) := by decide +kernel
theorem dX6_addPeak_54 : decode cX6_addPeak 54 = .ok (.iload 4, 2) := by decide +kernel
theorem dX6_addPeak_56 : decode cX6_addPeak 56 = .ok (.bipush 8, 2) := by decide +kernel
theorem dX6_addPeak_58 : decode cX6_addPeak 58 = .ok (.imul, 1) := by decide +kernel
theorem dX6_addPeak_59 : decode cX6_addPeak 59 = .ok (.iload_n 3, 1) := by decide +kernel
theorem dX6_addPeak_60 : decode cX6_addPeak 60 = .ok (.iadd, 1) := by decide +kernel
theorem dX6_addPeak_61 : decode cX6_addPeak 61 = .ok (.aload_n 1, 1) := by decide +kernel
theorem dX6_addPeak_62 : decode cX6_addPeak 62 = .ok (.getfield 75, 3) := by decide +kernel
theorem dX6_addPeak_65 : decode cX6_addPeak 65 = .ok (.iload_n 2, 1) := by decide +kernel
theorem dX6_addPeak_66 : decode cX6_addPeak 66 = .ok (.iaload, 1) := by decide +kernel
theorem dX6_addPeak_67 : decode cX6_addPeak 67 = .ok (.iastore, 1) := by decide +kernel
theorem dX6_addPeak_68 : decode cX6_addPeak 68 = .ok (.aload_n 0, 1) := by decide +kernel
theorem dX6_addPeak_69 : decode cX6_addPeak 69 = .ok (.getfield 36, 3) := by decide +kernel
theorem dX6_addPeak_72 : decode cX6_addPeak 72 = .ok (.iload_n 2, 1) := by decide +kernel
theorem dX6_addPeak_73 : decode cX6_addPeak 73 = .ok (.iaload, 1) := by decide +kernel
theorem dX6_addPeak_74 : decode cX6_addPeak 74 = .ok (.bipush (-9), 2) := by decide +kernel
theorem dX6_addPeak_76 : decode cX6_addPeak 76 = .ok (.if_icmp .eq 31, 3) := by decide +kernel
theorem dX6_addPeak_79 : decode cX6_addPeak 79 = .ok (.iload_n 3, 1) := by decide +kernel
theorem dX6_addPeak_80 : decode cX6_addPeak 80 = .ok (.iconst 1, 1) := by decide +kernel
theorem dX6_addPeak_81 : decode cX6_addPeak 81 = .ok (.iadd, 1) := by decide +kernel
theorem dX6_addPeak_82 : decode cX6_addPeak 82 = .ok (.bipush 8, 2) := by decide +kernel
theorem dX6_addPeak_84 : decode cX6_addPeak 84 = .ok (.if_icmp .ge 23, 3) := by decide +kernel
theorem dX6_addPeak_87 : decode cX6_addPeak 87 = .ok (.aload_n 0, 1) := by decide +kernel
theorem dX6_addPeak_88 : decode cX6_addPeak 88 = .ok (.getfield 33, 3) := by decide +kernel
theorem dX6_addPeak_91 : decode cX6_addPeak 91 = .ok (.iload_n 3, 1) := by decide +kernel
theorem dX6_addPeak_92 : decode cX6_addPeak 92 = .ok (.iconst 1, 1) := by decide +kernel
theorem dX6_addPeak_93 : decode cX6_addPeak 93 = .ok (.iadd, 1) := by decide +kernel
theorem dX6_addPeak_94 : decode cX6_addPeak 94 = .ok (.bipush 6, 2) := by decide +kernel
theorem dX6_addPeak_96 : decode cX6_addPeak 96 = .ok (.imul, 1) := by decide +kernel
theorem dX6_addPeak_97 : decode cX6_addPeak 97 = .ok (.aload_n 0, 1) := by decide +kernel
theorem dX6_addPeak_98 : decode cX6_addPeak 98 = .ok (.getfield 36, 3) := by decide +kernel
theorem dX6_addPeak_101 : decode cX6_addPeak 101 = .ok (.iload_n 2, 1) := by decide +kernel
theorem dX6_addPeak_102 : decode cX6_addPeak 102 = .ok (.iaload, 1) := by decide +kernel
theorem dX6_addPeak_103 : decode cX6_addPeak 103 = .ok (.iadd, 1) := by decide +kernel
theorem dX6_addPeak_104 : decode cX6_addPeak 104 = .ok (.iload 4, 2) := by decide +kernel
theorem dX6_addPeak_106 : decode cX6_addPeak 106 = .ok (.iastore, 1) := by decide +kernel
theorem dX6_addPeak_107 : decode cX6_addPeak 107 = .ok (.return_, 1) := by decide +kernel
theorem dX6_measure_0 : decode cX6_measure 0 = .ok (.aload_n 0, 1) := by decide +kernel
theorem dX6_measure_1 : decode cX6_measure 1 = .ok (.iload_n 1, 1) := by decide +kernel
theorem dX6_measure_2 : decode cX6_measure 2 = .ok (.aload_n 0, 1) := by decide +kernel
theorem dX6_measure_3 : decode cX6_measure 3 = .ok (.getfield 9, 3) := by decide +kernel
theorem dX6_measure_6 : decode cX6_measure 6 = .ok (.iload_n 1, 1) := by decide +kernel
theorem dX6_measure_7 : decode cX6_measure 7 = .ok (.iaload, 1) := by decide +kernel
theorem dX6_measure_8 : decode cX6_measure 8 = .ok (.invokevirtual 76, 3) := by decide +kernel
theorem dX6_measure_11 : decode cX6_measure 11 = .ok (.istore_n 2, 1) := by decide +kernel
theorem dX6_measure_12 : decode cX6_measure 12 = .ok (.iload_n 2, 1) := by decide +kernel
theorem dX6_measure_13 : decode cX6_measure 13 = .ok (.istore_n 3, 1) := by decide +kernel
theorem dX6_measure_14 : decode cX6_measure 14 = .ok (.iload_n 2, 1) := by decide +kernel
theorem dX6_measure_15 : decode cX6_measure 15 = .ok (.istore 4, 2) := by decide +kernel
theorem dX6_measure_17 : decode cX6_measure 17 = .ok (.iconst 0, 1) := by decide +kernel
theorem dX6_measure_18 : decode cX6_measure 18 = .ok (.istore 5, 2) := by decide +kernel
theorem dX6_measure_20 : decode cX6_measure 20 = .ok (.iconst 0, 1) := by decide +kernel
theorem dX6_measure_21 : decode cX6_measure 21 = .ok (.istore 6, 2) := by decide +kernel
theorem dX6_measure_23 : decode cX6_measure 23 = .ok (.aload_n 0, 1) := by decide +kernel
theorem dX6_measure_24 : decode cX6_measure 24 = .ok (.getfield 21, 3) := by decide +kernel
theorem dX6_measure_27 : decode cX6_measure 27 = .ok (.iload_n 1, 1) := by decide +kernel
theorem dX6_measure_28 : decode cX6_measure 28 = .ok (.iconst 0, 1) := by decide +kernel
theorem dX6_measure_29 : decode cX6_measure 29 = .ok (.iastore, 1) := by decide +kernel
theorem dX6_measure_30 : decode cX6_measure 30 = .ok (.aload_n 0, 1) := by decide +kernel
theorem dX6_measure_31 : decode cX6_measure 31 = .ok (.getfield 9, 3) := by decide +kernel
theorem dX6_measure_34 : decode cX6_measure 34 = .ok (.iload_n 1, 1) := by decide +kernel
theorem dX6_measure_35 : decode cX6_measure 35 = .ok (.iaload, 1) := by decide +kernel
theorem dX6_measure_36 : decode cX6_measure 36 = .ok (.iconst 1, 1) := by decide +kernel
theorem dX6_measure_37 : decode cX6_measure 37 = .ok (.iadd, 1) := by decide +kernel
theorem dX6_measure_38 : decode cX6_measure 38 = .ok (.istore 7, 2) := by decide +kernel
theorem dX6_measure_40 : decode cX6_measure 40 = .ok (.iload 7, 2) := by decide +kernel
theorem dX6_measure_42 : decode cX6_measure 42 = .ok (.aload_n 0, 1) := by decide +kernel
theorem dX6_measure_43 : decode cX6_measure 43 = .ok (.getfield 9, 3) := by decide +kernel
theorem dX6_measure_46 : decode cX6_measure 46 = .ok (.iload_n 1, 1) := by decide +kernel
theorem dX6_measure_47 : decode cX6_measure 47 = .ok (.iaload, 1) := by decide +kernel
theorem dX6_measure_48 : decode cX6_measure 48 = .ok (.aload_n 0, 1) := by decide +kernel
theorem dX6_measure_49 : decode cX6_measure 49 = .ok (.getfield 15, 3) := by decide +kernel
theorem dX6_measure_52 : decode cX6_measure 52 = .ok (.iload_n 1, 1) := by decide +kernel
theorem dX6_measure_53 : decode cX6_measure 53 = .ok (.iaload, 1) := by decide +kernel
theorem dX6_measure_54 : decode cX6_measure 54 = .ok (.iadd, 1) := by decide +kernel
theorem dX6_measure_55 : decode cX6_measure 55 = .ok (.if_icmp .ge 74, 3) := by decide +kernel
theorem dX6_measure_58 : decode cX6_measure 58 = .ok (.aload_n 0, 1) := by decide +kernel
theorem dX6_measure_59 : decode cX6_measure 59 = .ok (.iload_n 1, 1) := by decide +kernel
theorem dX6_measure_60 : decode cX6_measure 60 = .ok (.iload 7, 2) := by decide +kernel
theorem dX6_measure_62 : decode cX6_measure 62 = .ok (.invokevirtual 76, 3) := by decide +kernel
theorem dX6_measure_65 : decode cX6_measure 65 = .ok (.iload_n 2, 1) := by decide +kernel
theorem dX6_measure_66 : decode cX6_measure 66 = .ok (.invokestatic 80, 3) := by decide +kernel
theorem dX6_measure_69 : decode cX6_measure 69 = .ok (.istore 8, 2) := by decide +kernel
theorem dX6_measure_71 : decode cX6_measure 71 = .ok (.aload_n 0, 1) := by decide +kernel
theorem dX6_measure_72 : decode cX6_measure 72 = .ok (.iload_n 1, 1) := by decide +kernel
theorem dX6_measure_73 : decode cX6_measure 73 = .ok (.iload 7, 2) := by decide +kernel
theorem dX6_measure_75 : decode cX6_measure 75 = .ok (.invokevirtual 76, 3) := by decide +kernel
theorem dX6_measure_78 : decode cX6_measure 78 = .ok (.istore_n 2, 1) := by decide +kernel
theorem dX6_measure_79 : decode cX6_measure 79 = .ok (.iload_n 3, 1) := by decide +kernel
theorem dX6_measure_80 : decode cX6_measure 80 = .ok (.iload_n 2, 1) := by decide +kernel
theorem dX6_measure_81 : decode cX6_measure 81 = .ok (.invokestatic 85, 3) := by decide +kernel
theorem dX6_measure_84 : decode cX6_measure 84 = .ok (.istore_n 3, 1) := by decide +kernel
theorem dX6_measure_85 : decode cX6_measure 85 = .ok (.iload 4, 2) := by decide +kernel
theorem dX6_measure_87 : decode cX6_measure 87 = .ok (.iload_n 2, 1) := by decide +kernel
theorem dX6_measure_88 : decode cX6_measure 88 = .ok (.invokestatic 90, 3) := by decide +kernel
theorem dX6_measure_91 : decode cX6_measure 91 = .ok (.istore 4, 2) := by decide +kernel
theorem dX6_measure_93 : decode cX6_measure 93 = .ok (.iload 8, 2) := by decide +kernel
theorem dX6_measure_95 : decode cX6_measure 95 = .ok (.ifCond .eq 28, 3) := by decide +kernel
theorem dX6_measure_98 : decode cX6_measure 98 = .ok (.iinc 5 1, 3) := by decide +kernel
theorem dX6_measure_101 : decode cX6_measure 101 = .ok (.iload 6, 2) := by decide +kernel
theorem dX6_measure_103 : decode cX6_measure 103 = .ok (.iload 8, 2) := by decide +kernel
theorem dX6_measure_105 : decode cX6_measure 105 = .ok (.ineg, 1) := by decide +kernel
theorem dX6_measure_106 : decode cX6_measure 106 = .ok (.if_icmp .ne 13, 3) := by decide +kernel
theorem dX6_measure_109 : decode cX6_measure 109 = .ok (.aload_n 0, 1) := by decide +kernel
theorem dX6_measure_110 : decode cX6_measure 110 = .ok (.getfield 21, 3) := by decide +kernel
theorem dX6_measure_113 : decode cX6_measure 113 = .ok (.iload_n 1, 1) := by decide +kernel
theorem dX6_measure_114 : decode cX6_measure 114 = .ok (.dup2, 1) := by decide +kernel
theorem dX6_measure_115 : decode cX6_measure 115 = .ok (.iaload, 1) := by decide +kernel
theorem dX6_measure_116 : decode cX6_measure 116 = .ok (.iconst 1, 1) := by decide +kernel
theorem dX6_measure_117 : decode cX6_measure 117 = .ok (.iadd, 1) := by decide +kernel
theorem dX6_measure_118 : decode cX6_measure 118 = .ok (.iastore, 1) := by decide +kernel
theorem dX6_measure_119 : decode cX6_measure 119 = .ok (.iload 8, 2) := by decide +kernel
theorem dX6_measure_121 : decode cX6_measure 121 = .ok (.istore 6, 2) := by decide +kernel
theorem dX6_measure_123 : decode cX6_measure 123 = .ok (.iinc 7 1, 3) := by decide +kernel
theorem dX6_measure_126 : decode cX6_measure 126 = .ok (.goto (-86), 3) := by decide +kernel
theorem dX6_measure_129 : decode cX6_measure 129 = .ok (.aload_n 0, 1) := by decide +kernel
theorem dX6_measure_130 : decode cX6_measure 130 = .ok (.getfield 18, 3) := by decide +kernel
theorem dX6_measure_133 : decode cX6_measure 133 = .ok (.iload_n 1, 1) := by decide +kernel
theorem dX6_measure_134 : decode cX6_measure 134 = .ok (.iload 4, 2) := by decide +kernel
theorem dX6_measure_136 : decode cX6_measure 136 = .ok (.iload_n 3, 1) := by decide +kernel
theorem dX6_measure_137 : decode cX6_measure 137 = .ok (.isub, 1) := by decide +kernel
theorem dX6_measure_138 : decode cX6_measure 138 = .ok (.iastore, 1) := by decide +kernel
theorem dX6_measure_139 : decode cX6_measure 139 = .ok (.aload_n 0, 1) := by decide +kernel
theorem dX6_measure_140 : decode cX6_measure 140 = .ok (.getfield 24, 3) := by decide +kernel
theorem dX6_measure_143 : decode cX6_measure 143 = .ok (.iload_n 1, 1) := by decide +kernel
theorem dX6_measure_144 : decode cX6_measure 144 = .ok (.aload_n 0, 1) := by decide +kernel
theorem dX6_measure_145 : decode cX6_measure 145 = .ok (.getfield 18, 3) := by decide +kernel
theorem dX6_measure_148 : decode cX6_measure 148 = .ok (.iload_n 1, 1) := by decide +kernel
theorem dX6_measure_149 : decode cX6_measure 149 = .ok (.iaload, 1) := by decide +kernel
theorem dX6_measure_150 : decode cX6_measure 150 = .ok (.aload_n 0, 1) := by decide +kernel
theorem dX6_measure_151 : decode cX6_measure 151 = .ok (.getfield 21, 3) := by decide +kernel
theorem dX6_measure_154 : decode cX6_measure 154 = .ok (.iload_n 1, 1) := by decide +kernel
theorem dX6_measure_155 : decode cX6_measure 155 = .ok (.iaload, 1) := by decide +kernel
theorem dX6_measure_156 : decode cX6_measure 156 = .ok (.iload 5, 2) := by decide +kernel
theorem dX6_measure_158 : decode cX6_measure 158 = .ok (.invokestatic 93, 3) := by decide +kernel
theorem dX6_measure_161 : decode cX6_measure 161 = .ok (.iastore, 1) := by decide +kernel
theorem dX6_measure_162 : decode cX6_measure 162 = .ok (.return_, 1) := by decide +kernel
theorem dX6_kindBy_0 : decode cX6_kindBy 0 = .ok (.iload_n 0, 1) := by decide +kernel
theorem dX6_kindBy_1 : decode cX6_kindBy 1 = .ok (.iconst 1, 1) := by decide +kernel
theorem dX6_kindBy_2 : decode cX6_kindBy 2 = .ok (.if_icmp .gt 5, 3) := by decide +kernel
theorem dX6_kindBy_5 : decode cX6_kindBy 5 = .ok (.iconst 0, 1) := by decide +kernel
theorem dX6_kindBy_6 : decode cX6_kindBy 6 = .ok (.ireturn, 1) := by decide +kernel
theorem dX6_kindBy_7 : decode cX6_kindBy 7 = .ok (.iload_n 1, 1) := by decide +kernel
theorem dX6_kindBy_8 : decode cX6_kindBy 8 = .ok (.ifCond .ne 5, 3) := by decide +kernel
theorem dX6_kindBy_11 : decode cX6_kindBy 11 = .ok (.iconst 1, 1) := by decide +kernel
theorem dX6_kindBy_12 : decode cX6_kindBy 12 = .ok (.ireturn, 1) := by decide +kernel
theorem dX6_kindBy_13 : decode cX6_kindBy 13 = .ok (.iconst 2, 1) := by decide +kernel
theorem dX6_kindBy_14 : decode cX6_kindBy 14 = .ok (.iload_n 1, 1) := by decide +kernel
theorem dX6_kindBy_15 : decode cX6_kindBy 15 = .ok (.imul, 1) := by decide +kernel
theorem dX6_kindBy_16 : decode cX6_kindBy 16 = .ok (.iload_n 2, 1) := by decide +kernel
theorem dX6_kindBy_17 : decode cX6_kindBy 17 = .ok (.if_icmp .lt 7, 3) := by decide +kernel
theorem dX6_kindBy_20 : decode cX6_kindBy 20 = .ok (.iconst 2, 1) := by decide +kernel
theorem dX6_kindBy_21 : decode cX6_kindBy 21 = .ok (.goto 4, 3) := by decide +kernel
theorem dX6_kindBy_24 : decode cX6_kindBy 24 = .ok (.iconst 3, 1) := by decide +kernel
theorem dX6_kindBy_25 : decode cX6_kindBy 25 = .ok (.ireturn, 1) := by decide +kernel
theorem dX6_worthOf_0 : decode cX6_worthOf 0 = .ok (.aload_n 0, 1) := by decide +kernel
theorem dX6_worthOf_1 : decode cX6_worthOf 1 = .ok (.getfield 27, 3) := by decide +kernel
theorem dX6_worthOf_4 : decode cX6_worthOf 4 = .ok (.iload_n 1, 1) := by decide +kernel
theorem dX6_worthOf_5 : decode cX6_worthOf 5 = .ok (.iaload, 1) := by decide +kernel
theorem dX6_worthOf_6 : decode cX6_worthOf 6 = .ok (.aload_n 0, 1) := by decide +kernel
theorem dX6_worthOf_7 : decode cX6_worthOf 7 = .ok (.getfield 24, 3) := by decide +kernel
theorem dX6_worthOf_10 : decode cX6_worthOf 10 = .ok (.iload_n 1, 1) := by decide +kernel
theorem dX6_worthOf_11 : decode cX6_worthOf 11 = .ok (.iaload, 1) := by decide +kernel
theorem dX6_worthOf_12 : decode cX6_worthOf 12 = .ok (.iconst 1, 1) := by decide +kernel
theorem dX6_worthOf_13 : decode cX6_worthOf 13 = .ok (.iadd, 1) := by decide +kernel
theorem dX6_worthOf_14 : decode cX6_worthOf 14 = .ok (.imul, 1) := by decide +kernel
theorem dX6_worthOf_15 : decode cX6_worthOf 15 = .ok (.aload_n 0, 1) := by decide +kernel
theorem dX6_worthOf_16 : decode cX6_worthOf 16 = .ok (.getfield 18, 3) := by decide +kernel
theorem dX6_worthOf_19 : decode cX6_worthOf 19 = .ok (.iload_n 1, 1) := by decide +kernel
theorem dX6_worthOf_20 : decode cX6_worthOf 20 = .ok (.iaload, 1) := by decide +kernel
theorem dX6_worthOf_21 : decode cX6_worthOf 21 = .ok (.isub, 1) := by decide +kernel
theorem dX6_worthOf_22 : decode cX6_worthOf 22 = .ok (.ireturn, 1) := by decide +kernel
theorem dX6_pitchIn_0 : decode cX6_pitchIn 0 = .ok (.iload_n 1, 1) := by decide +kernel
theorem dX6_pitchIn_1 : decode cX6_pitchIn 1 = .ok (.ifCond .lt 21, 3) := by decide +kernel
theorem dX6_pitchIn_4 : decode cX6_pitchIn 4 = .ok (.iload_n 1, 1) := by decide +kernel
theorem dX6_pitchIn_5 : decode cX6_pitchIn 5 = .ok (.aload_n 0, 1) := by decide +kernel
theorem dX6_pitchIn_6 : decode cX6_pitchIn 6 = .ok (.getfield 39, 3) := by decide +kernel
theorem dX6_pitchIn_9 : decode cX6_pitchIn 9 = .ok (.if_icmp .ge 13, 3) := by decide +kernel
theorem dX6_pitchIn_12 : decode cX6_pitchIn 12 = .ok (.iload_n 2, 1) := by decide +kernel
theorem dX6_pitchIn_13 : decode cX6_pitchIn 13 = .ok (.ifCond .lt 9, 3) := by decide +kernel
theorem dX6_pitchIn_16 : decode cX6_pitchIn 16 = .ok (.iload_n 2, 1) := by decide +kernel
theorem dX6_pitchIn_17 : decode cX6_pitchIn 17 = .ok (.bipush 8, 2) := by decide +kernel
theorem dX6_pitchIn_19 : decode cX6_pitchIn 19 = .ok (.if_icmp .lt 6, 3) := by decide +kernel
theorem dX6_pitchIn_22 : decode cX6_pitchIn 22 = .ok (.bipush (-9), 2) := by decide +kernel
theorem dX6_pitchIn_24 : decode cX6_pitchIn 24 = .ok (.ireturn, 1) := by decide +kernel
theorem dX6_pitchIn_25 : decode cX6_pitchIn 25 = .ok (.aload_n 0, 1) := by decide +kernel
theorem dX6_pitchIn_26 : decode cX6_pitchIn 26 = .ok (.getfield 30, 3) := by decide +kernel
theorem dX6_pitchIn_29 : decode cX6_pitchIn 29 = .ok (.iload_n 1, 1) := by decide +kernel
theorem dX6_pitchIn_30 : decode cX6_pitchIn 30 = .ok (.bipush 8, 2) := by decide +kernel
theorem dX6_pitchIn_32 : decode cX6_pitchIn 32 = .ok (.imul, 1) := by decide +kernel
theorem dX6_pitchIn_33 : decode cX6_pitchIn 33 = .ok (.iload_n 2, 1) := by decide +kernel
theorem dX6_pitchIn_34 : decode cX6_pitchIn 34 = .ok (.iadd, 1) := by decide +kernel
theorem dX6_pitchIn_35 : decode cX6_pitchIn 35 = .ok (.iaload, 1) := by decide +kernel
theorem dX6_pitchIn_36 : decode cX6_pitchIn 36 = .ok (.ireturn, 1) := by decide +kernel
theorem dX6_bornIn_0 : decode cX6_bornIn 0 = .ok (.iconst 0, 1) := by decide +kernel
theorem dX6_bornIn_1 : decode cX6_bornIn 1 = .ok (.istore_n 2, 1) := by decide +kernel
theorem dX6_bornIn_2 : decode cX6_bornIn 2 = .ok (.iconst 0, 1) := by decide +kernel
theorem dX6_bornIn_3 : decode cX6_bornIn 3 = .ok (.istore_n 3, 1) := by decide +kernel
theorem dX6_bornIn_4 : decode cX6_bornIn 4 = .ok (.iload_n 3, 1) := by decide +kernel
theorem dX6_bornIn_5 : decode cX6_bornIn 5 = .ok (.aload_n 0, 1) := by decide +kernel
theorem dX6_bornIn_6 : decode cX6_bornIn 6 = .ok (.getfield 39, 3) := by decide +kernel
theorem dX6_bornIn_9 : decode cX6_bornIn 9 = .ok (.if_icmp .ge 22, 3) := by decide +kernel
theorem dX6_bornIn_12 : decode cX6_bornIn 12 = .ok (.aload_n 0, 1) := by decide +kernel
theorem dX6_bornIn_13 : decode cX6_bornIn 13 = .ok (.getfield 9, 3) := by decide +kernel
theorem dX6_bornIn_16 : decode cX6_bornIn 16 = .ok (.iload_n 3, 1) := by decide +kernel
theorem dX6_bornIn_17 : decode cX6_bornIn 17 = .ok (.iaload, 1) := by decide +kernel
theorem dX6_bornIn_18 : decode cX6_bornIn 18 = .ok (.iload_n 1, 1) := by decide +kernel
theorem dX6_bornIn_19 : decode cX6_bornIn 19 = .ok (.if_icmp .ne 6, 3) := by decide +kernel
theorem dX6_bornIn_22 : decode cX6_bornIn 22 = .ok (.iinc 2 1, 3) := by decide +kernel
theorem dX6_bornIn_25 : decode cX6_bornIn 25 = .ok (.iinc 3 1, 3) := by decide +kernel
theorem dX6_bornIn_28 : decode cX6_bornIn 28 = .ok (.goto (-24), 3) := by decide +kernel
theorem dX6_bornIn_31 : decode cX6_bornIn 31 = .ok (.iload_n 2, 1) := by decide +kernel
theorem dX6_bornIn_32 : decode cX6_bornIn 32 = .ok (.ireturn, 1) := by decide +kernel
theorem dX6_endingIn_0 : decode cX6_endingIn 0 = .ok (.iconst 0, 1) := by decide +kernel
theorem dX6_endingIn_1 : decode cX6_endingIn 1 = .ok (.istore_n 2, 1) := by decide +kernel
theorem dX6_endingIn_2 : decode cX6_endingIn 2 = .ok (.iconst 0, 1) := by decide +kernel
theorem dX6_endingIn_3 : decode cX6_endingIn 3 = .ok (.istore_n 3, 1) := by decide +kernel
theorem dX6_endingIn_4 : decode cX6_endingIn 4 = .ok (.iload_n 3, 1) := by decide +kernel
theorem dX6_endingIn_5 : decode cX6_endingIn 5 = .ok (.aload_n 0, 1) := by decide +kernel
theorem dX6_endingIn_6 : decode cX6_endingIn 6 = .ok (.getfield 39, 3) := by decide +kernel
theorem dX6_endingIn_9 : decode cX6_endingIn 9 = .ok (.if_icmp .ge 31, 3) := by decide +kernel
theorem dX6_endingIn_12 : decode cX6_endingIn 12 = .ok (.aload_n 0, 1) := by decide +kernel
theorem dX6_endingIn_13 : decode cX6_endingIn 13 = .ok (.getfield 9, 3) := by decide +kernel
theorem dX6_endingIn_16 : decode cX6_endingIn 16 = .ok (.iload_n 3, 1) := by decide +kernel
theorem dX6_endingIn_17 : decode cX6_endingIn 17 = .ok (.iaload, 1) := by decide +kernel
theorem dX6_endingIn_18 : decode cX6_endingIn 18 = .ok (.aload_n 0, 1) := by decide +kernel
theorem dX6_endingIn_19 : decode cX6_endingIn 19 = .ok (.getfield 15, 3) := by decide +kernel
theorem dX6_endingIn_22 : decode cX6_endingIn 22 = .ok (.iload_n 3, 1) := by decide +kernel
theorem dX6_endingIn_23 : decode cX6_endingIn 23 = .ok (.iaload, 1) := by decide +kernel
theorem dX6_endingIn_24 : decode cX6_endingIn 24 = .ok (.iadd, 1) := by decide +kernel
theorem dX6_endingIn_25 : decode cX6_endingIn 25 = .ok (.iconst 1, 1) := by decide +kernel
theorem dX6_endingIn_26 : decode cX6_endingIn 26 = .ok (.isub, 1) := by decide +kernel
theorem dX6_endingIn_27 : decode cX6_endingIn 27 = .ok (.iload_n 1, 1) := by decide +kernel
theorem dX6_endingIn_28 : decode cX6_endingIn 28 = .ok (.if_icmp .ne 6, 3) := by decide +kernel
theorem dX6_endingIn_31 : decode cX6_endingIn 31 = .ok (.iinc 2 1, 3) := by decide +kernel
theorem dX6_endingIn_34 : decode cX6_endingIn 34 = .ok (.iinc 3 1, 3) := by decide +kernel
theorem dX6_endingIn_37 : decode cX6_endingIn 37 = .ok (.goto (-33), 3) := by decide +kernel
theorem dX6_endingIn_40 : decode cX6_endingIn 40 = .ok (.iload_n 2, 1) := by decide +kernel
theorem dX6_endingIn_41 : decode cX6_endingIn 41 = .ok (.ireturn, 1) := by decide +kernel
theorem dX6_longest_0 : decode cX6_longest 0 = .ok (.bipush (-9), 2) := by decide +kernel
theorem dX6_longest_2 : decode cX6_longest 2 = .ok (.istore_n 1, 1) := by decide +kernel
theorem dX6_longest_3 : decode cX6_longest 3 = .ok (.iconst 0, 1) := by decide +kernel
theorem dX6_longest_4 : decode cX6_longest 4 = .ok (.istore_n 2, 1) := by decide +kernel
theorem dX6_longest_5 : decode cX6_longest 5 = .ok (.iconst 0, 1) := by decide +kernel
theorem dX6_longest_6 : decode cX6_longest 6 = .ok (.istore_n 3, 1) := by decide +kernel
theorem dX6_longest_7 : decode cX6_longest 7 = .ok (.iload_n 3, 1) := by decide +kernel
theorem dX6_longest_8 : decode cX6_longest 8 = .ok (.aload_n 0, 1) := by decide +kernel
theorem dX6_longest_9 : decode cX6_longest 9 = .ok (.getfield 39, 3) := by decide +kernel
theorem dX6_longest_12 : decode cX6_longest 12 = .ok (.if_icmp .ge 28, 3) := by decide +kernel
