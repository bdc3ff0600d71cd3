theorem dX0_init_0 : decode cX0_init 0 = .ok (.aload_n 0, 1) := by decide +kernel
theorem dX0_init_1 : decode cX0_init 1 = .ok (.invokespecial 1, 3) := by decide +kernel
theorem dX0_init_4 : decode cX0_init 4 = .ok (.aload_n 0, 1) := by decide +kernel
theorem dX0_init_5 : decode cX0_init 5 = .ok (.sipush 600, 3) := by decide +kernel
theorem dX0_init_8 : decode cX0_init 8 = .ok (.newarray .int, 2) := by decide +kernel
theorem dX0_init_10 : decode cX0_init 10 = .ok (.putfield 9, 3) := by decide +kernel
theorem dX0_init_13 : decode cX0_init 13 = .ok (.return_, 1) := by decide +kernel
theorem dX0_write_0 : decode cX0_write 0 = .ok (.aload_n 1, 1) := by decide +kernel
theorem dX0_write_1 : decode cX0_write 1 = .ok (.getfield 13, 3) := by decide +kernel
theorem dX0_write_4 : decode cX0_write 4 = .ok (.sipush 150, 3) := by decide +kernel
theorem dX0_write_7 : decode cX0_write 7 = .ok (.if_icmp .lt 4, 3) := by decide +kernel
theorem dX0_write_10 : decode cX0_write 10 = .ok (.return_, 1) := by decide +kernel
theorem dX0_write_11 : decode cX0_write 11 = .ok (.iconst 4, 1) := by decide +kernel
theorem dX0_write_12 : decode cX0_write 12 = .ok (.aload_n 1, 1) := by decide +kernel
theorem dX0_write_13 : decode cX0_write 13 = .ok (.getfield 13, 3) := by decide +kernel
theorem dX0_write_16 : decode cX0_write 16 = .ok (.imul, 1) := by decide +kernel
theorem dX0_write_17 : decode cX0_write 17 = .ok (.istore 5, 2) := by decide +kernel
theorem dX0_write_19 : decode cX0_write 19 = .ok (.aload_n 0, 1) := by decide +kernel
theorem dX0_write_20 : decode cX0_write 20 = .ok (.getfield 9, 3) := by decide +kernel
theorem dX0_write_23 : decode cX0_write 23 = .ok (.iload 5, 2) := by decide +kernel
theorem dX0_write_25 : decode cX0_write 25 = .ok (.aload_n 1, 1) := by decide +kernel
theorem dX0_write_26 : decode cX0_write 26 = .ok (.getfield 19, 3) := by decide +kernel
theorem dX0_write_29 : decode cX0_write 29 = .ok (.iastore, 1) := by decide +kernel
theorem dX0_write_30 : decode cX0_write 30 = .ok (.aload_n 0, 1) := by decide +kernel
theorem dX0_write_31 : decode cX0_write 31 = .ok (.getfield 9, 3) := by decide +kernel
theorem dX0_write_34 : decode cX0_write 34 = .ok (.iload 5, 2) := by decide +kernel
theorem dX0_write_36 : decode cX0_write 36 = .ok (.iconst 1, 1) := by decide +kernel
theorem dX0_write_37 : decode cX0_write 37 = .ok (.iadd, 1) := by decide +kernel
theorem dX0_write_38 : decode cX0_write 38 = .ok (.iload_n 2, 1) := by decide +kernel
theorem dX0_write_39 : decode cX0_write 39 = .ok (.iastore, 1) := by decide +kernel
theorem dX0_write_40 : decode cX0_write 40 = .ok (.aload_n 0, 1) := by decide +kernel
theorem dX0_write_41 : decode cX0_write 41 = .ok (.getfield 9, 3) := by decide +kernel
theorem dX0_write_44 : decode cX0_write 44 = .ok (.iload 5, 2) := by decide +kernel
theorem dX0_write_46 : decode cX0_write 46 = .ok (.iconst 2, 1) := by decide +kernel
theorem dX0_write_47 : decode cX0_write 47 = .ok (.iadd, 1) := by decide +kernel
theorem dX0_write_48 : decode cX0_write 48 = .ok (.iload_n 3, 1) := by decide +kernel
theorem dX0_write_49 : decode cX0_write 49 = .ok (.iastore, 1) := by decide +kernel
theorem dX0_write_50 : decode cX0_write 50 = .ok (.aload_n 0, 1) := by decide +kernel
theorem dX0_write_51 : decode cX0_write 51 = .ok (.getfield 9, 3) := by decide +kernel
theorem dX0_write_54 : decode cX0_write 54 = .ok (.iload 5, 2) := by decide +kernel
theorem dX0_write_56 : decode cX0_write 56 = .ok (.iconst 3, 1) := by decide +kernel
theorem dX0_write_57 : decode cX0_write 57 = .ok (.iadd, 1) := by decide +kernel
theorem dX0_write_58 : decode cX0_write 58 = .ok (.iload 4, 2) := by decide +kernel
theorem dX0_write_60 : decode cX0_write 60 = .ok (.iastore, 1) := by decide +kernel
theorem dX0_write_61 : decode cX0_write 61 = .ok (.aload_n 1, 1) := by decide +kernel
theorem dX0_write_62 : decode cX0_write 62 = .ok (.dup, 1) := by decide +kernel
theorem dX0_write_63 : decode cX0_write 63 = .ok (.getfield 13, 3) := by decide +kernel
theorem dX0_write_66 : decode cX0_write 66 = .ok (.iconst 1, 1) := by decide +kernel
theorem dX0_write_67 : decode cX0_write 67 = .ok (.iadd, 1) := by decide +kernel
theorem dX0_write_68 : decode cX0_write 68 = .ok (.putfield 13, 3) := by decide +kernel
theorem dX0_write_71 : decode cX0_write 71 = .ok (.return_, 1) := by decide +kernel
theorem dX0_part_0 : decode cX0_part 0 = .ok (.aload_n 0, 1) := by decide +kernel
theorem dX0_part_1 : decode cX0_part 1 = .ok (.getfield 9, 3) := by decide +kernel
theorem dX0_part_4 : decode cX0_part 4 = .ok (.iconst 4, 1) := by decide +kernel
theorem dX0_part_5 : decode cX0_part 5 = .ok (.iload_n 1, 1) := by decide +kernel
theorem dX0_part_6 : decode cX0_part 6 = .ok (.imul, 1) := by decide +kernel
theorem dX0_part_7 : decode cX0_part 7 = .ok (.iload_n 2, 1) := by decide +kernel
theorem dX0_part_8 : decode cX0_part 8 = .ok (.iadd, 1) := by decide +kernel
theorem dX0_part_9 : decode cX0_part 9 = .ok (.iaload, 1) := by decide +kernel
theorem dX0_part_10 : decode cX0_part 10 = .ok (.ireturn, 1) := by decide +kernel
theorem dX0_copyFrom_0 : decode cX0_copyFrom 0 = .ok (.aload_n 1, 1) := by decide +kernel
theorem dX0_copyFrom_1 : decode cX0_copyFrom 1 = .ok (.getfield 9, 3) := by decide +kernel
theorem dX0_copyFrom_4 : decode cX0_copyFrom 4 = .ok (.iconst 0, 1) := by decide +kernel
theorem dX0_copyFrom_5 : decode cX0_copyFrom 5 = .ok (.aload_n 0, 1) := by decide +kernel
theorem dX0_copyFrom_6 : decode cX0_copyFrom 6 = .ok (.getfield 9, 3) := by decide +kernel
theorem dX0_copyFrom_9 : decode cX0_copyFrom 9 = .ok (.iconst 0, 1) := by decide +kernel
theorem dX0_copyFrom_10 : decode cX0_copyFrom 10 = .ok (.sipush 600, 3) := by decide +kernel
theorem dX0_copyFrom_13 : decode cX0_copyFrom 13 = .ok (.invokestatic 22, 3) := by decide +kernel
theorem dX0_copyFrom_16 : decode cX0_copyFrom 16 = .ok (.return_, 1) := by decide +kernel
theorem dX1_init_0 : decode cX1_init 0 = .ok (.aload_n 0, 1) := by decide +kernel
theorem dX1_init_1 : decode cX1_init 1 = .ok (.invokespecial 3, 3) := by decide +kernel
theorem dX1_init_4 : decode cX1_init 4 = .ok (.aload_n 0, 1) := by decide +kernel
theorem dX1_init_5 : decode cX1_init 5 = .ok (.bipush 10, 2) := by decide +kernel
theorem dX1_init_7 : decode cX1_init 7 = .ok (.newarray .int, 2) := by decide +kernel
theorem dX1_init_9 : decode cX1_init 9 = .ok (.putfield 11, 3) := by decide +kernel
theorem dX1_init_12 : decode cX1_init 12 = .ok (.aload_n 0, 1) := by decide +kernel
theorem dX1_init_13 : decode cX1_init 13 = .ok (.new 15, 3) := by decide +kernel
theorem dX1_init_16 : decode cX1_init 16 = .ok (.dup, 1) := by decide +kernel
theorem dX1_init_17 : decode cX1_init 17 = .ok (.invokespecial 17, 3) := by decide +kernel
theorem dX1_init_20 : decode cX1_init 20 = .ok (.putfield 18, 3) := by decide +kernel
theorem dX1_init_23 : decode cX1_init 23 = .ok (.aload_n 0, 1) := by decide +kernel
theorem dX1_init_24 : decode cX1_init 24 = .ok (.new 15, 3) := by decide +kernel
theorem dX1_init_27 : decode cX1_init 27 = .ok (.dup, 1) := by decide +kernel
theorem dX1_init_28 : decode cX1_init 28 = .ok (.invokespecial 17, 3) := by decide +kernel
theorem dX1_init_31 : decode cX1_init 31 = .ok (.putfield 22, 3) := by decide +kernel
theorem dX1_init_34 : decode cX1_init 34 = .ok (.aload_n 0, 1) := by decide +kernel
theorem dX1_init_35 : decode cX1_init 35 = .ok (.aload_n 1, 1) := by decide +kernel
theorem dX1_init_36 : decode cX1_init 36 = .ok (.putfield 25, 3) := by decide +kernel
theorem dX1_init_39 : decode cX1_init 39 = .ok (.aload_n 0, 1) := by decide +kernel
theorem dX1_init_40 : decode cX1_init 40 = .ok (.aload_n 2, 1) := by decide +kernel
theorem dX1_init_41 : decode cX1_init 41 = .ok (.putfield 29, 3) := by decide +kernel
theorem dX1_init_44 : decode cX1_init 44 = .ok (.aload_n 0, 1) := by decide +kernel
theorem dX1_init_45 : decode cX1_init 45 = .ok (.aload_n 3, 1) := by decide +kernel
theorem dX1_init_46 : decode cX1_init 46 = .ok (.putfield 33, 3) := by decide +kernel
theorem dX1_init_49 : decode cX1_init 49 = .ok (.return_, 1) := by decide +kernel
theorem dX1_pass_0 : decode cX1_pass 0 = .ok (.iconst 0, 1) := by decide +kernel
theorem dX1_pass_1 : decode cX1_pass 1 = .ok (.istore_n 1, 1) := by decide +kernel
theorem dX1_pass_2 : decode cX1_pass 2 = .ok (.iload_n 1, 1) := by decide +kernel
theorem dX1_pass_3 : decode cX1_pass 3 = .ok (.aload_n 0, 1) := by decide +kernel
theorem dX1_pass_4 : decode cX1_pass 4 = .ok (.getfield 25, 3) := by decide +kernel
theorem dX1_pass_7 : decode cX1_pass 7 = .ok (.getfield 37, 3) := by decide +kernel
theorem dX1_pass_10 : decode cX1_pass 10 = .ok (.if_icmp .ge 29, 3) := by decide +kernel
theorem dX1_pass_13 : decode cX1_pass 13 = .ok (.aload_n 0, 1) := by decide +kernel
theorem dX1_pass_14 : decode cX1_pass 14 = .ok (.getfield 25, 3) := by decide +kernel
theorem dX1_pass_17 : decode cX1_pass 17 = .ok (.getfield 43, 3) := by decide +kernel
theorem dX1_pass_20 : decode cX1_pass 20 = .ok (.iload_n 1, 1) := by decide +kernel
theorem dX1_pass_21 : decode cX1_pass 21 = .ok (.aaload, 1) := by decide +kernel
theorem dX1_pass_22 : decode cX1_pass 22 = .ok (.getfield 47, 3) := by decide +kernel
theorem dX1_pass_25 : decode cX1_pass 25 = .ok (.ifCond .eq 8, 3) := by decide +kernel
theorem dX1_pass_28 : decode cX1_pass 28 = .ok (.aload_n 0, 1) := by decide +kernel
theorem dX1_pass_29 : decode cX1_pass 29 = .ok (.iload_n 1, 1) := by decide +kernel
theorem dX1_pass_30 : decode cX1_pass 30 = .ok (.invokevirtual 51, 3) := by decide +kernel
theorem dX1_pass_33 : decode cX1_pass 33 = .ok (.iinc 1 1, 3) := by decide +kernel
theorem dX1_pass_36 : decode cX1_pass 36 = .ok (.goto (-34), 3) := by decide +kernel
theorem dX1_pass_39 : decode cX1_pass 39 = .ok (.aload_n 0, 1) := by decide +kernel
theorem dX1_pass_40 : decode cX1_pass 40 = .ok (.getfield 25, 3) := by decide +kernel
theorem dX1_pass_43 : decode cX1_pass 43 = .ok (.dup, 1) := by decide +kernel
theorem dX1_pass_44 : decode cX1_pass 44 = .ok (.getfield 55, 3) := by decide +kernel
theorem dX1_pass_47 : decode cX1_pass 47 = .ok (.iconst 1, 1) := by decide +kernel
theorem dX1_pass_48 : decode cX1_pass 48 = .ok (.iadd, 1) := by decide +kernel
theorem dX1_pass_49 : decode cX1_pass 49 = .ok (.putfield 55, 3) := by decide +kernel
theorem dX1_pass_52 : decode cX1_pass 52 = .ok (.return_, 1) := by decide +kernel
theorem dX1_turnRound_0 : decode cX1_turnRound 0 = .ok (.aload_n 0, 1) := by decide +kernel
theorem dX1_turnRound_1 : decode cX1_turnRound 1 = .ok (.getfield 25, 3) := by decide +kernel
theorem dX1_turnRound_4 : decode cX1_turnRound 4 = .ok (.getfield 43, 3) := by decide +kernel
theorem dX1_turnRound_7 : decode cX1_turnRound 7 = .ok (.iload_n 1, 1) := by decide +kernel
theorem dX1_turnRound_8 : decode cX1_turnRound 8 = .ok (.aaload, 1) := by decide +kernel
theorem dX1_turnRound_9 : decode cX1_turnRound 9 = .ok (.astore_n 3, 1) := by decide +kernel
theorem dX1_turnRound_10 : decode cX1_turnRound 10 = .ok (.iload_n 2, 1) := by decide +kernel
theorem dX1_turnRound_11 : decode cX1_turnRound 11 = .ok (.iconst 2, 1) := by decide +kernel
theorem dX1_turnRound_12 : decode cX1_turnRound 12 = .ok (.if_icmp .ne 7, 3) := by decide +kernel
theorem dX1_turnRound_15 : decode cX1_turnRound 15 = .ok (.iconst 2, 1) := by decide +kernel
theorem dX1_turnRound_16 : decode cX1_turnRound 16 = .ok (.goto 4, 3) := by decide +kernel
theorem dX1_turnRound_19 : decode cX1_turnRound 19 = .ok (.iconst 1, 1) := by decide +kernel
theorem dX1_turnRound_20 : decode cX1_turnRound 20 = .ok (.istore 4, 2) := by decide +kernel
theorem dX1_turnRound_22 : decode cX1_turnRound 22 = .ok (.aload_n 3, 1) := by decide +kernel
theorem dX1_turnRound_23 : decode cX1_turnRound 23 = .ok (.iload_n 2, 1) := by decide +kernel
theorem dX1_turnRound_24 : decode cX1_turnRound 24 = .ok (.invokevirtual 58, 3) := by decide +kernel
theorem dX1_turnRound_27 : decode cX1_turnRound 27 = .ok (.aload_n 3, 1) := by decide +kernel
theorem dX1_turnRound_28 : decode cX1_turnRound 28 = .ok (.dup, 1) := by decide +kernel
theorem dX1_turnRound_29 : decode cX1_turnRound 29 = .ok (.getfield 61, 3) := by decide +kernel
theorem dX1_turnRound_32 : decode cX1_turnRound 32 = .ok (.iload 4, 2) := by decide +kernel
theorem dX1_turnRound_34 : decode cX1_turnRound 34 = .ok (.iadd, 1) := by decide +kernel
theorem dX1_turnRound_35 : decode cX1_turnRound 35 = .ok (.putfield 61, 3) := by decide +kernel
theorem dX1_turnRound_38 : decode cX1_turnRound 38 = .ok (.aload_n 0, 1) := by decide +kernel
theorem dX1_turnRound_39 : decode cX1_turnRound 39 = .ok (.getfield 25, 3) := by decide +kernel
theorem dX1_turnRound_42 : decode cX1_turnRound 42 = .ok (.getfield 64, 3) := by decide +kernel
theorem dX1_turnRound_45 : decode cX1_turnRound 45 = .ok (.aload_n 3, 1) := by decide +kernel
theorem dX1_turnRound_46 : decode cX1_turnRound 46 = .ok (.invokevirtual 67, 3) := by decide +kernel
theorem dX1_turnRound_49 : decode cX1_turnRound 49 = .ok (.iaload, 1) := by decide +kernel
theorem dX1_turnRound_50 : decode cX1_turnRound 50 = .ok (.iconst 3, 1) := by decide +kernel
theorem dX1_turnRound_51 : decode cX1_turnRound 51 = .ok (.if_icmp .ne 14, 3) := by decide +kernel
theorem dX1_turnRound_54 : decode cX1_turnRound 54 = .ok (.aload_n 3, 1) := by decide +kernel
theorem dX1_turnRound_55 : decode cX1_turnRound 55 = .ok (.dup, 1) := by decide +kernel
theorem dX1_turnRound_56 : decode cX1_turnRound 56 = .ok (.getfield 71, 3) := by decide +kernel
theorem dX1_turnRound_59 : decode cX1_turnRound 59 = .ok (.iload 4, 2) := by decide +kernel
theorem dX1_turnRound_61 : decode cX1_turnRound 61 = .ok (.iadd, 1) := by decide +kernel
theorem dX1_turnRound_62 : decode cX1_turnRound 62 = .ok (.putfield 71, 3) := by decide +kernel
theorem dX1_turnRound_65 : decode cX1_turnRound 65 = .ok (.aload_n 0, 1) := by decide +kernel
theorem dX1_turnRound_66 : decode cX1_turnRound 66 = .ok (.getfield 33, 3) := by decide +kernel
theorem dX1_turnRound_69 : decode cX1_turnRound 69 = .ok (.aload_n 0, 1) := by decide +kernel
theorem dX1_turnRound_70 : decode cX1_turnRound 70 = .ok (.getfield 25, 3) := by decide +kernel
theorem dX1_turnRound_73 : decode cX1_turnRound 73 = .ok (.iconst 1, 1) := by decide +kernel
theorem dX1_turnRound_74 : decode cX1_turnRound 74 = .ok (.iload_n 1, 1) := by decide +kernel
theorem dX1_turnRound_75 : decode cX1_turnRound 75 = .ok (.aload_n 3, 1) := by decide +kernel
theorem dX1_turnRound_76 : decode cX1_turnRound 76 = .ok (.invokevirtual 67, 3) := by decide +kernel
theorem dX1_turnRound_79 : decode cX1_turnRound 79 = .ok (.invokevirtual 76, 3) := by decide +kernel
theorem dX1_turnRound_82 : decode cX1_turnRound 82 = .ok (.return_, 1) := by decide +kernel
theorem dX1_ask_0 : decode cX1_ask 0 = .ok (.aload_n 0, 1) := by decide +kernel
theorem dX1_ask_1 : decode cX1_ask 1 = .ok (.getfield 11, 3) := by decide +kernel
theorem dX1_ask_4 : decode cX1_ask 4 = .ok (.iconst 0, 1) := by decide +kernel
theorem dX1_ask_5 : decode cX1_ask 5 = .ok (.invokestatic 80, 3) := by decide +kernel
theorem dX1_ask_8 : decode cX1_ask 8 = .ok (.aload_n 0, 1) := by decide +kernel
theorem dX1_ask_9 : decode cX1_ask 9 = .ok (.getfield 11, 3) := by decide +kernel
theorem dX1_ask_12 : decode cX1_ask 12 = .ok (.iconst 0, 1) := by decide +kernel
theorem dX1_ask_13 : decode cX1_ask 13 = .ok (.aload_n 2, 1) := by decide +kernel
theorem dX1_ask_14 : decode cX1_ask 14 = .ok (.getfield 86, 3) := by decide +kernel
theorem dX1_ask_17 : decode cX1_ask 17 = .ok (.iastore, 1) := by decide +kernel
theorem dX1_ask_18 : decode cX1_ask 18 = .ok (.aload_n 2, 1) := by decide +kernel
theorem dX1_ask_19 : decode cX1_ask 19 = .ok (.getfield 47, 3) := by decide +kernel
theorem dX1_ask_22 : decode cX1_ask 22 = .ok (.ifCond .eq 81, 3) := by decide +kernel
theorem dX1_ask_25 : decode cX1_ask 25 = .ok (.aload_n 0, 1) := by decide +kernel
theorem dX1_ask_26 : decode cX1_ask 26 = .ok (.getfield 11, 3) := by decide +kernel
theorem dX1_ask_29 : decode cX1_ask 29 = .ok (.iconst 1, 1) := by decide +kernel
theorem dX1_ask_30 : decode cX1_ask 30 = .ok (.aload_n 2, 1) := by decide +kernel
theorem dX1_ask_31 : decode cX1_ask 31 = .ok (.getfield 61, 3) := by decide +kernel
theorem dX1_ask_34 : decode cX1_ask 34 = .ok (.iastore, 1) := by decide +kernel
theorem dX1_ask_35 : decode cX1_ask 35 = .ok (.aload_n 0, 1) := by decide +kernel
theorem dX1_ask_36 : decode cX1_ask 36 = .ok (.getfield 11, 3) := by decide +kernel
theorem dX1_ask_39 : decode cX1_ask 39 = .ok (.iconst 2, 1) := by decide +kernel
theorem dX1_ask_40 : decode cX1_ask 40 = .ok (.aload_n 2, 1) := by decide +kernel
theorem dX1_ask_41 : decode cX1_ask 41 = .ok (.getfield 71, 3) := by decide +kernel
theorem dX1_ask_44 : decode cX1_ask 44 = .ok (.iastore, 1) := by decide +kernel
theorem dX1_ask_45 : decode cX1_ask 45 = .ok (.aload_n 0, 1) := by decide +kernel
theorem dX1_ask_46 : decode cX1_ask 46 = .ok (.getfield 11, 3) := by decide +kernel
theorem dX1_ask_49 : decode cX1_ask 49 = .ok (.iconst 3, 1) := by decide +kernel
theorem dX1_ask_50 : decode cX1_ask 50 = .ok (.aload_n 2, 1) := by decide +kernel
theorem dX1_ask_51 : decode cX1_ask 51 = .ok (.getfield 89, 3) := by decide +kernel
theorem dX1_ask_54 : decode cX1_ask 54 = .ok (.iastore, 1) := by decide +kernel
theorem dX1_ask_55 : decode cX1_ask 55 = .ok (.aload_n 0, 1) := by decide +kernel
theorem dX1_ask_56 : decode cX1_ask 56 = .ok (.getfield 11, 3) := by decide +kernel
theorem dX1_ask_59 : decode cX1_ask 59 = .ok (.iconst 4, 1) := by decide +kernel
theorem dX1_ask_60 : decode cX1_ask 60 = .ok (.aload_n 2, 1) := by decide +kernel
theorem dX1_ask_61 : decode cX1_ask 61 = .ok (.getfield 92, 3) := by decide +kernel
theorem dX1_ask_64 : decode cX1_ask 64 = .ok (.iastore, 1) := by decide +kernel
theorem dX1_ask_65 : decode cX1_ask 65 = .ok (.aload_n 0, 1) := by decide +kernel
theorem dX1_ask_66 : decode cX1_ask 66 = .ok (.getfield 11, 3) := by decide +kernel
theorem dX1_ask_69 : decode cX1_ask 69 = .ok (.iconst 5, 1) := by decide +kernel
theorem dX1_ask_70 : decode cX1_ask 70 = .ok (.aload_n 2, 1) := by decide +kernel
theorem dX1_ask_71 : decode cX1_ask 71 = .ok (.getfield 95, 3) := by decide +kernel
theorem dX1_ask_74 : decode cX1_ask 74 = .ok (.iastore, 1) := by decide +kernel
theorem dX1_ask_75 : decode cX1_ask 75 = .ok (.aload_n 0, 1) := by decide +kernel
theorem dX1_ask_76 : decode cX1_ask 76 = .ok (.getfield 11, 3) := by decide +kernel
theorem dX1_ask_79 : decode cX1_ask 79 = .ok (.bipush 6, 2) := by decide +kernel
theorem dX1_ask_81 : decode cX1_ask 81 = .ok (.aload_n 0, 1) := by decide +kernel
theorem dX1_ask_82 : decode cX1_ask 82 = .ok (.getfield 25, 3) := by decide +kernel
theorem dX1_ask_85 : decode cX1_ask 85 = .ok (.getfield 64, 3) := by decide +kernel
theorem dX1_ask_88 : decode cX1_ask 88 = .ok (.aload_n 2, 1) := by decide +kernel
theorem dX1_ask_89 : decode cX1_ask 89 = .ok (.invokevirtual 67, 3) := by decide +kernel
theorem dX1_ask_92 : decode cX1_ask 92 = .ok (.iaload, 1) := by decide +kernel
theorem dX1_ask_93 : decode cX1_ask 93 = .ok (.iconst 2, 1) := by decide +kernel
theorem dX1_ask_94 : decode cX1_ask 94 = .ok (.if_icmp .ne 7, 3) := by decide +kernel
theorem dX1_ask_97 : decode cX1_ask 97 = .ok (.iconst 1, 1) := by decide +kernel
theorem dX1_ask_98 : decode cX1_ask 98 = .ok (.goto 4, 3) := by decide +kernel
theorem dX1_ask_101 : decode cX1_ask 101 = .ok (.iconst 0, 1) := by decide +kernel
theorem dX1_ask_102 : decode cX1_ask 102 = .ok (.iastore, 1) := by decide +kernel
theorem dX1_ask_103 : decode cX1_ask 103 = .ok (.aload_n 0, 1) := by decide +kernel
theorem dX1_ask_104 : decode cX1_ask 104 = .ok (.getfield 11, 3) := by decide +kernel
theorem dX1_ask_107 : decode cX1_ask 107 = .ok (.bipush 7, 2) := by decide +kernel
theorem dX1_ask_109 : decode cX1_ask 109 = .ok (.aload_n 0, 1) := by decide +kernel
theorem dX1_ask_110 : decode cX1_ask 110 = .ok (.getfield 25, 3) := by decide +kernel
theorem dX1_ask_113 : decode cX1_ask 113 = .ok (.iconst 0, 1) := by decide +kernel
theorem dX1_ask_114 : decode cX1_ask 114 = .ok (.invokevirtual 98, 3) := by decide +kernel
theorem dX1_ask_117 : decode cX1_ask 117 = .ok (.iastore, 1) := by decide +kernel
theorem dX1_ask_118 : decode cX1_ask 118 = .ok (.aload_n 0, 1) := by decide +kernel
theorem dX1_ask_119 : decode cX1_ask 119 = .ok (.getfield 11, 3) := by decide +kernel
theorem dX1_ask_122 : decode cX1_ask 122 = .ok (.bipush 8, 2) := by decide +kernel
theorem dX1_ask_124 : decode cX1_ask 124 = .ok (.aload_n 0, 1) := by decide +kernel
theorem dX1_ask_125 : decode cX1_ask 125 = .ok (.getfield 29, 3) := by decide +kernel
theorem dX1_ask_128 : decode cX1_ask 128 = .ok (.aload_n 0, 1) := by decide +kernel
theorem dX1_ask_129 : decode cX1_ask 129 = .ok (.getfield 25, 3) := by decide +kernel
theorem dX1_ask_132 : decode cX1_ask 132 = .ok (.getfield 55, 3) := by decide +kernel
theorem dX1_ask_135 : decode cX1_ask 135 = .ok (.invokevirtual 102, 3) := by decide +kernel
theorem dX1_ask_138 : decode cX1_ask 138 = .ok (.iastore, 1) := by decide +kernel
theorem dX1_ask_139 : decode cX1_ask 139 = .ok (.aload_n 0, 1) := by decide +kernel
theorem dX1_ask_140 : decode cX1_ask 140 = .ok (.getfield 11, 3) := by decide +kernel
theorem dX1_ask_143 : decode cX1_ask 143 = .ok (.bipush 9, 2) := by decide +kernel
theorem dX1_ask_145 : decode cX1_ask 145 = .ok (.aload_n 0, 1) := by decide +kernel
theorem dX1_ask_146 : decode cX1_ask 146 = .ok (.getfield 25, 3) := by decide +kernel
theorem dX1_ask_149 : decode cX1_ask 149 = .ok (.getfield 55, 3) := by decide +kernel
theorem dX1_ask_152 : decode cX1_ask 152 = .ok (.iastore, 1) := by decide +kernel
theorem dX1_ask_153 : decode cX1_ask 153 = .ok (.aload_n 0, 1) := by decide +kernel
theorem dX1_ask_154 : decode cX1_ask 154 = .ok (.getfield 29, 3) := by decide +kernel
theorem dX1_ask_157 : decode cX1_ask 157 = .ok (.getfield 107, 3) := by decide +kernel
theorem dX1_ask_160 : decode cX1_ask 160 = .ok (.iload_n 1, 1) := by decide +kernel
theorem dX1_ask_161 : decode cX1_ask 161 = .ok (.aload_n 0, 1) := by decide +kernel
theorem dX1_ask_162 : decode cX1_ask 162 = .ok (.getfield 11, 3) := by decide +kernel
theorem dX1_ask_165 : decode cX1_ask 165 = .ok (.invokevirtual 111, 3) := by decide +kernel
theorem dX1_ask_168 : decode cX1_ask 168 = .ok (.ireturn, 1) := by decide +kernel
theorem dX1_meeting_0 : decode cX1_meeting 0 = .ok (.aload_n 0, 1) := by decide +kernel
theorem dX1_meeting_1 : decode cX1_meeting 1 = .ok (.getfield 18, 3) := by decide +kernel
theorem dX1_meeting_4 : decode cX1_meeting 4 = .ok (.aload_n 0, 1) := by decide +kernel
theorem dX1_meeting_5 : decode cX1_meeting 5 = .ok (.getfield 25, 3) := by decide +kernel
theorem dX1_meeting_8 : decode cX1_meeting 8 = .ok (.getfield 43, 3) := by decide +kernel
theorem dX1_meeting_11 : decode cX1_meeting 11 = .ok (.iload_n 1, 1) := by decide +kernel
theorem dX1_meeting_12 : decode cX1_meeting 12 = .ok (.aaload, 1) := by decide +kernel
theorem dX1_meeting_13 : decode cX1_meeting 13 = .ok (.invokevirtual 117, 3) := by decide +kernel
theorem dX1_meeting_16 : decode cX1_meeting 16 = .ok (.aload_n 0, 1) := by decide +kernel
theorem dX1_meeting_17 : decode cX1_meeting 17 = .ok (.getfield 22, 3) := by decide +kernel
theorem dX1_meeting_20 : decode cX1_meeting 20 = .ok (.aload_n 0, 1) := by decide +kernel
theorem dX1_meeting_21 : decode cX1_meeting 21 = .ok (.getfield 25, 3) := by decide +kernel
theorem dX1_meeting_24 : decode cX1_meeting 24 = .ok (.getfield 43, 3) := by decide +kernel
theorem dX1_meeting_27 : decode cX1_meeting 27 = .ok (.iload_n 2, 1) := by decide +kernel
theorem dX1_meeting_28 : decode cX1_meeting 28 = .ok (.aaload, 1) := by decide +kernel
theorem dX1_meeting_29 : decode cX1_meeting 29 = .ok (.invokevirtual 117, 3) := by decide +kernel
theorem dX1_meeting_32 : decode cX1_meeting 32 = .ok (.iconst 1, 1) := by decide +kernel
theorem dX1_meeting_33 : decode cX1_meeting 33 = .ok (.istore_n 3, 1) := by decide +kernel
theorem dX1_meeting_34 : decode cX1_meeting 34 = .ok (.iload_n 3, 1) := by decide +kernel
theorem dX1_meeting_35 : decode cX1_meeting 35 = .ok (.bipush 60, 2) := by decide +kernel
theorem dX1_meeting_37 : decode cX1_meeting 37 = .ok (.if_icmp .gt 68, 3) := by decide +kernel
theorem dX1_meeting_40 : decode cX1_meeting 40 = .ok (.aload_n 0, 1) := by decide +kernel
theorem dX1_meeting_41 : decode cX1_meeting 41 = .ok (.iload_n 1, 1) := by decide +kernel
theorem dX1_meeting_42 : decode cX1_meeting 42 = .ok (.aload_n 0, 1) := by decide +kernel
theorem dX1_meeting_43 : decode cX1_meeting 43 = .ok (.getfield 18, 3) := by decide +kernel
theorem dX1_meeting_46 : decode cX1_meeting 46 = .ok (.invokevirtual 121, 3) := by decide +kernel
theorem dX1_meeting_49 : decode cX1_meeting 49 = .ok (.aload_n 0, 1) := by decide +kernel
theorem dX1_meeting_50 : decode cX1_meeting 50 = .ok (.iload_n 2, 1) := by decide +kernel
theorem dX1_meeting_51 : decode cX1_meeting 51 = .ok (.aload_n 0, 1) := by decide +kernel
theorem dX1_meeting_52 : decode cX1_meeting 52 = .ok (.getfield 22, 3) := by decide +kernel
theorem dX1_meeting_55 : decode cX1_meeting 55 = .ok (.invokevirtual 121, 3) := by decide +kernel
theorem dX1_meeting_58 : decode cX1_meeting 58 = .ok (.aload_n 0, 1) := by decide +kernel
theorem dX1_meeting_59 : decode cX1_meeting 59 = .ok (.getfield 18, 3) := by decide +kernel
theorem dX1_meeting_62 : decode cX1_meeting 62 = .ok (.getfield 47, 3) := by decide +kernel
theorem dX1_meeting_65 : decode cX1_meeting 65 = .ok (.ifCond .eq 13, 3) := by decide +kernel
theorem dX1_meeting_68 : decode cX1_meeting 68 = .ok (.aload_n 0, 1) := by decide +kernel
theorem dX1_meeting_69 : decode cX1_meeting 69 = .ok (.getfield 22, 3) := by decide +kernel
theorem dX1_meeting_72 : decode cX1_meeting 72 = .ok (.getfield 47, 3) := by decide +kernel
theorem dX1_meeting_75 : decode cX1_meeting 75 = .ok (.ifCond .ne 5, 3) := by decide +kernel
theorem dX1_meeting_78 : decode cX1_meeting 78 = .ok (.iconst (-1), 1) := by decide +kernel
theorem dX1_meeting_79 : decode cX1_meeting 79 = .ok (.ireturn, 1) := by decide +kernel
theorem dX1_meeting_80 : decode cX1_meeting 80 = .ok (.aload_n 0, 1) := by decide +kernel
theorem dX1_meeting_81 : decode cX1_meeting 81 = .ok (.getfield 18, 3) := by decide +kernel
theorem dX1_meeting_84 : decode cX1_meeting 84 = .ok (.invokevirtual 67, 3) := by decide +kernel
theorem dX1_meeting_87 : decode cX1_meeting 87 = .ok (.aload_n 0, 1) := by decide +kernel
theorem dX1_meeting_88 : decode cX1_meeting 88 = .ok (.getfield 22, 3) := by decide +kernel
theorem dX1_meeting_91 : decode cX1_meeting 91 = .ok (.invokevirtual 67, 3) := by decide +kernel
theorem dX1_meeting_94 : decode cX1_meeting 94 = .ok (.if_icmp .ne 5, 3) := by decide +kernel
theorem dX1_meeting_97 : decode cX1_meeting 97 = .ok (.iload_n 3, 1) := by decide +kernel
theorem dX1_meeting_98 : decode cX1_meeting 98 = .ok (.ireturn, 1) := by decide +kernel
theorem dX1_meeting_99 : decode cX1_meeting 99 = .ok (.iinc 3 1, 3) := by decide +kernel
theorem dX1_meeting_102 : decode cX1_meeting 102 = .ok (.goto (-68), 3) := by decide +kernel
theorem dX1_meeting_105 : decode cX1_meeting 105 = .ok (.iconst (-1), 1) := by decide +kernel
theorem dX1_meeting_106 : decode cX1_meeting 106 = .ok (.ireturn, 1) := by decide +kernel
theorem dX1_act_0 : decode cX1_act 0 = .ok (.aload_n 0, 1) := by decide +kernel
theorem dX1_act_1 : decode cX1_act 1 = .ok (.getfield 25, 3) := by decide +kernel
theorem dX1_act_4 : decode cX1_act 4 = .ok (.getfield 43, 3) := by decide +kernel
theorem dX1_act_7 : decode cX1_act 7 = .ok (.iload_n 1, 1) := by decide +kernel
theorem dX1_act_8 : decode cX1_act 8 = .ok (.aaload, 1) := by decide +kernel
theorem dX1_act_9 : decode cX1_act 9 = .ok (.astore_n 2, 1) := by decide +kernel
theorem dX1_act_10 : decode cX1_act 10 = .ok (.aload_n 0, 1) := by decide +kernel
theorem dX1_act_11 : decode cX1_act 11 = .ok (.getfield 29, 3) := by decide +kernel
theorem dX1_act_14 : decode cX1_act 14 = .ok (.iload_n 1, 1) := by decide +kernel
theorem dX1_act_15 : decode cX1_act 15 = .ok (.aload_n 2, 1) := by decide +kernel
theorem dX1_act_16 : decode cX1_act 16 = .ok (.invokevirtual 125, 3) := by decide +kernel
theorem dX1_act_19 : decode cX1_act 19 = .ok (.istore_n 3, 1) := by decide +kernel
theorem dX1_act_20 : decode cX1_act 20 = .ok (.iload_n 3, 1) := by decide +kernel
theorem dX1_act_21 : decode cX1_act 21 = .ok (.sipush 154, 3) := by decide +kernel
theorem dX1_act_24 : decode cX1_act 24 = .ok (.if_icmp .ne 4, 3) := by decide +kernel
theorem dX1_act_27 : decode cX1_act 27 = .ok (.return_, 1) := by decide +kernel
theorem dX1_act_28 : decode cX1_act 28 = .ok (.iload_n 3, 1) := by decide +kernel
theorem dX1_act_29 : decode cX1_act 29 = .ok (.sipush 150, 3) := by decide +kernel
theorem dX1_act_32 : decode cX1_act 32 = .ok (.if_icmp .eq 14, 3) := by decide +kernel
theorem dX1_act_35 : decode cX1_act 35 = .ok (.aload_n 0, 1) := by decide +kernel
theorem dX1_act_36 : decode cX1_act 36 = .ok (.iload_n 1, 1) := by decide +kernel
theorem dX1_act_37 : decode cX1_act 37 = .ok (.iload_n 3, 1) := by decide +kernel
theorem dX1_act_38 : decode cX1_act 38 = .ok (.sipush 151, 3) := by decide +kernel
theorem dX1_act_41 : decode cX1_act 41 = .ok (.isub, 1) := by decide +kernel
theorem dX1_act_42 : decode cX1_act 42 = .ok (.invokevirtual 131, 3) := by decide +kernel
theorem dX1_act_45 : decode cX1_act 45 = .ok (.return_, 1) := by decide +kernel
theorem dX1_act_46 : decode cX1_act 46 = .ok (.aload_n 0, 1) := by decide +kernel
theorem dX1_act_47 : decode cX1_act 47 = .ok (.iload_n 1, 1) := by decide +kernel
theorem dX1_act_48 : decode cX1_act 48 = .ok (.invokevirtual 135, 3) := by decide +kernel
theorem dX1_act_51 : decode cX1_act 51 = .ok (.istore 4, 2) := by decide +kernel
theorem dX1_act_53 : decode cX1_act 53 = .ok (.iload 4, 2) := by decide +kernel
theorem dX1_act_55 : decode cX1_act 55 = .ok (.iconst 1, 1) := by decide +kernel
theorem dX1_act_56 : decode cX1_act 56 = .ok (.if_icmp .ne 68, 3) := by decide +kernel
theorem dX1_act_59 : decode cX1_act 59 = .ok (.aload_n 0, 1) := by decide +kernel
theorem dX1_act_60 : decode cX1_act 60 = .ok (.getfield 25, 3) := by decide +kernel
theorem dX1_act_63 : decode cX1_act 63 = .ok (.getfield 64, 3) := by decide +kernel
theorem dX1_act_66 : decode cX1_act 66 = .ok (.aload_n 2, 1) := by decide +kernel
theorem dX1_act_67 : decode cX1_act 67 = .ok (.invokevirtual 67, 3) := by decide +kernel
theorem dX1_act_70 : decode cX1_act 70 = .ok (.iaload, 1) := by decide +kernel
theorem dX1_act_71 : decode cX1_act 71 = .ok (.iconst 2, 1) := by decide +kernel
theorem dX1_act_72 : decode cX1_act 72 = .ok (.if_icmp .ne 52, 3) := by decide +kernel
theorem dX1_act_75 : decode cX1_act 75 = .ok (.aload_n 0, 1) := by decide +kernel
theorem dX1_act_76 : decode cX1_act 76 = .ok (.aload_n 0, 1) := by decide +kernel
theorem dX1_act_77 : decode cX1_act 77 = .ok (.sipush 128, 3) := by decide +kernel
theorem dX1_act_80 : decode cX1_act 80 = .ok (.aload_n 2, 1) := by decide +kernel
theorem dX1_act_81 : decode cX1_act 81 = .ok (.invokevirtual 138, 3) := by decide +kernel
theorem dX1_act_84 : decode cX1_act 84 = .ok (.invokevirtual 141, 3) := by decide +kernel
theorem dX1_act_87 : decode cX1_act 87 = .ok (.ifCond .eq 37, 3) := by decide +kernel
theorem dX1_act_90 : decode cX1_act 90 = .ok (.aload_n 2, 1) := by decide +kernel
theorem dX1_act_91 : decode cX1_act 91 = .ok (.dup, 1) := by decide +kernel
theorem dX1_act_92 : decode cX1_act 92 = .ok (.getfield 145, 3) := by decide +kernel
theorem dX1_act_95 : decode cX1_act 95 = .ok (.iconst 1, 1) := by decide +kernel
theorem dX1_act_96 : decode cX1_act 96 = .ok (.iadd, 1) := by decide +kernel
theorem dX1_act_97 : decode cX1_act 97 = .ok (.putfield 145, 3) := by decide +kernel
theorem dX1_act_100 : decode cX1_act 100 = .ok (.aload_n 0, 1) := by decide +kernel
theorem dX1_act_101 : decode cX1_act 101 = .ok (.getfield 33, 3) := by decide +kernel
theorem dX1_act_104 : decode cX1_act 104 = .ok (.aload_n 0, 1) := by decide +kernel
theorem dX1_act_105 : decode cX1_act 105 = .ok (.getfield 25, 3) := by decide +kernel
theorem dX1_act_108 : decode cX1_act 108 = .ok (.iconst 2, 1) := by decide +kernel
theorem dX1_act_109 : decode cX1_act 109 = .ok (.iload_n 1, 1) := by decide +kernel
theorem dX1_act_110 : decode cX1_act 110 = .ok (.aload_n 2, 1) := by decide +kernel
theorem dX1_act_111 : decode cX1_act 111 = .ok (.invokevirtual 67, 3) := by decide +kernel
theorem dX1_act_114 : decode cX1_act 114 = .ok (.invokevirtual 76, 3) := by decide +kernel
theorem dX1_act_117 : decode cX1_act 117 = .ok (.aload_n 0, 1) := by decide +kernel
theorem dX1_act_118 : decode cX1_act 118 = .ok (.iload_n 1, 1) := by decide +kernel
theorem dX1_act_119 : decode cX1_act 119 = .ok (.invokevirtual 135, 3) := by decide +kernel
theorem dX1_act_122 : decode cX1_act 122 = .ok (.istore 4, 2) := by decide +kernel
theorem dX1_act_124 : decode cX1_act 124 = .ok (.iload 4, 2) := by decide +kernel
theorem dX1_act_126 : decode cX1_act 126 = .ok (.iconst 2, 1) := by decide +kernel
theorem dX1_act_127 : decode cX1_act 127 = .ok (.if_icmp .ne 8, 3) := by decide +kernel
theorem dX1_act_130 : decode cX1_act 130 = .ok (.aload_n 0, 1) := by decide +kernel
theorem dX1_act_131 : decode cX1_act 131 = .ok (.iload_n 1, 1) := by decide +kernel
theorem dX1_act_132 : decode cX1_act 132 = .ok (.invokevirtual 148, 3) := by decide +kernel
theorem dX1_act_135 : decode cX1_act 135 = .ok (.return_, 1) := by decide +kernel
theorem dX1_goOn_0 : decode cX1_goOn 0 = .ok (.aload_n 0, 1) := by decide +kernel
theorem dX1_goOn_1 : decode cX1_goOn 1 = .ok (.getfield 25, 3) := by decide +kernel
theorem dX1_goOn_4 : decode cX1_goOn 4 = .ok (.getfield 43, 3) := by decide +kernel
theorem dX1_goOn_7 : decode cX1_goOn 7 = .ok (.iload_n 1, 1) := by decide +kernel
theorem dX1_goOn_8 : decode cX1_goOn 8 = .ok (.aaload, 1) := by decide +kernel
theorem dX1_goOn_9 : decode cX1_goOn 9 = .ok (.astore_n 2, 1) := by decide +kernel
theorem dX1_goOn_10 : decode cX1_goOn 10 = .ok (.aload_n 2, 1) := by decide +kernel
theorem dX1_goOn_11 : decode cX1_goOn 11 = .ok (.invokevirtual 151, 3) := by decide +kernel
theorem dX1_goOn_14 : decode cX1_goOn 14 = .ok (.istore_n 3, 1) := by decide +kernel
theorem dX1_goOn_15 : decode cX1_goOn 15 = .ok (.iload_n 3, 1) := by decide +kernel
theorem dX1_goOn_16 : decode cX1_goOn 16 = .ok (.iconst (-1), 1) := by decide +kernel
theorem dX1_goOn_17 : decode cX1_goOn 17 = .ok (.if_icmp .ne 5, 3) := by decide +kernel
theorem dX1_goOn_20 : decode cX1_goOn 20 = .ok (.iconst 2, 1) := by decide +kernel
theorem dX1_goOn_21 : decode cX1_goOn 21 = .ok (.ireturn, 1) := by decide +kernel
theorem dX1_goOn_22 : decode cX1_goOn 22 = .ok (.aload_n 0, 1) := by decide +kernel
theorem dX1_goOn_23 : decode cX1_goOn 23 = .ok (.getfield 25, 3) := by decide +kernel
theorem dX1_goOn_26 : decode cX1_goOn 26 = .ok (.getfield 64, 3) := by decide +kernel
theorem dX1_goOn_29 : decode cX1_goOn 29 = .ok (.iload_n 3, 1) := by decide +kernel
theorem dX1_goOn_30 : decode cX1_goOn 30 = .ok (.iaload, 1) := by decide +kernel
theorem dX1_goOn_31 : decode cX1_goOn 31 = .ok (.iconst 1, 1) := by decide +kernel
theorem dX1_goOn_32 : decode cX1_goOn 32 = .ok (.if_icmp .eq 15, 3) := by decide +kernel
theorem dX1_goOn_35 : decode cX1_goOn 35 = .ok (.aload_n 0, 1) := by decide +kernel
theorem dX1_goOn_36 : decode cX1_goOn 36 = .ok (.getfield 25, 3) := by decide +kernel
theorem dX1_goOn_39 : decode cX1_goOn 39 = .ok (.iload_n 3, 1) := by decide +kernel
theorem dX1_goOn_40 : decode cX1_goOn 40 = .ok (.invokevirtual 154, 3) := by decide +kernel
theorem dX1_goOn_43 : decode cX1_goOn 43 = .ok (.iconst (-1), 1) := by decide +kernel
theorem dX1_goOn_44 : decode cX1_goOn 44 = .ok (.if_icmp .eq 22, 3) := by decide +kernel
theorem dX1_goOn_47 : decode cX1_goOn 47 = .ok (.aload_n 0, 1) := by decide +kernel
theorem dX1_goOn_48 : decode cX1_goOn 48 = .ok (.getfield 33, 3) := by decide +kernel
theorem dX1_goOn_51 : decode cX1_goOn 51 = .ok (.aload_n 0, 1) := by decide +kernel
theorem dX1_goOn_52 : decode cX1_goOn 52 = .ok (.getfield 25, 3) := by decide +kernel
theorem dX1_goOn_55 : decode cX1_goOn 55 = .ok (.iconst 5, 1) := by decide +kernel
theorem dX1_goOn_56 : decode cX1_goOn 56 = .ok (.iload_n 1, 1) := by decide +kernel
theorem dX1_goOn_57 : decode cX1_goOn 57 = .ok (.aload_n 2, 1) := by decide +kernel
theorem dX1_goOn_58 : decode cX1_goOn 58 = .ok (.invokevirtual 67, 3) := by decide +kernel
theorem dX1_goOn_61 : decode cX1_goOn 61 = .ok (.invokevirtual 76, 3) := by decide +kernel
theorem dX1_goOn_64 : decode cX1_goOn 64 = .ok (.iconst 0, 1) := by decide +kernel
theorem dX1_goOn_65 : decode cX1_goOn 65 = .ok (.ireturn, 1) := by decide +kernel
theorem dX1_goOn_66 : decode cX1_goOn 66 = .ok (.aload_n 2, 1) := by decide +kernel
theorem dX1_goOn_67 : decode cX1_goOn 67 = .ok (.iload_n 3, 1) := by decide +kernel
theorem dX1_goOn_68 : decode cX1_goOn 68 = .ok (.invokevirtual 157, 3) := by decide +kernel
theorem dX1_goOn_71 : decode cX1_goOn 71 = .ok (.iconst 1, 1) := by decide +kernel
theorem dX1_goOn_72 : decode cX1_goOn 72 = .ok (.ireturn, 1) := by decide +kernel
theorem dX1_leave_0 : decode cX1_leave 0 = .ok (.aload_n 0, 1) := by decide +kernel
theorem dX1_leave_1 : decode cX1_leave 1 = .ok (.getfield 25, 3) := by decide +kernel
theorem dX1_leave_4 : decode cX1_leave 4 = .ok (.getfield 43, 3) := by decide +kernel
theorem dX1_leave_7 : decode cX1_leave 7 = .ok (.iload_n 1, 1) := by decide +kernel
theorem dX1_leave_8 : decode cX1_leave 8 = .ok (.aaload, 1) := by decide +kernel
theorem dX1_leave_9 : decode cX1_leave 9 = .ok (.astore_n 2, 1) := by decide +kernel
theorem dX1_leave_10 : decode cX1_leave 10 = .ok (.aload_n 2, 1) := by decide +kernel
theorem dX1_leave_11 : decode cX1_leave 11 = .ok (.getfield 95, 3) := by decide +kernel
theorem dX1_leave_14 : decode cX1_leave 14 = .ok (.aload_n 2, 1) := by decide +kernel
theorem dX1_leave_15 : decode cX1_leave 15 = .ok (.getfield 160, 3) := by decide +kernel
theorem dX1_leave_18 : decode cX1_leave 18 = .ok (.iconst 2, 1) := by decide +kernel
theorem dX1_leave_19 : decode cX1_leave 19 = .ok (.iadd, 1) := by decide +kernel
theorem dX1_leave_20 : decode cX1_leave 20 = .ok (.iconst 4, 1) := by decide +kernel
theorem dX1_leave_21 : decode cX1_leave 21 = .ok (.irem, 1) := by decide +kernel
theorem dX1_leave_22 : decode cX1_leave 22 = .ok (.if_icmp .ne 7, 3) := by decide +kernel
theorem dX1_leave_25 : decode cX1_leave 25 = .ok (.iconst 1, 1) := by decide +kernel
theorem dX1_leave_26 : decode cX1_leave 26 = .ok (.goto 4, 3) := by decide +kernel
theorem dX1_leave_29 : decode cX1_leave 29 = .ok (.iconst 0, 1) := by decide +kernel
theorem dX1_leave_30 : decode cX1_leave 30 = .ok (.istore_n 3, 1) := by decide +kernel
theorem dX1_leave_31 : decode cX1_leave 31 = .ok (.iload_n 3, 1) := by decide +kernel
theorem dX1_leave_32 : decode cX1_leave 32 = .ok (.ifCond .ne 121, 3) := by decide +kernel
theorem dX1_leave_35 : decode cX1_leave 35 = .ok (.aload_n 0, 1) := by decide +kernel
theorem dX1_leave_36 : decode cX1_leave 36 = .ok (.dup, 1) := by decide +kernel
theorem dX1_leave_37 : decode cX1_leave 37 = .ok (.getfield 163, 3) := by decide +kernel
theorem dX1_leave_40 : decode cX1_leave 40 = .ok (.iconst 1, 1) := by decide +kernel
theorem dX1_leave_41 : decode cX1_leave 41 = .ok (.iadd, 1) := by decide +kernel
theorem dX1_leave_42 : decode cX1_leave 42 = .ok (.putfield 163, 3) := by decide +kernel
theorem dX1_leave_45 : decode cX1_leave 45 = .ok (.aload_n 2, 1) := by decide +kernel
theorem dX1_leave_46 : decode cX1_leave 46 = .ok (.dup, 1) := by decide +kernel
theorem dX1_leave_47 : decode cX1_leave 47 = .ok (.getfield 166, 3) := by decide +kernel
theorem dX1_leave_50 : decode cX1_leave 50 = .ok (.iconst 1, 1) := by decide +kernel
theorem dX1_leave_51 : decode cX1_leave 51 = .ok (.iadd, 1) := by decide +kernel
theorem dX1_leave_52 : decode cX1_leave 52 = .ok (.putfield 166, 3) := by decide +kernel
theorem dX1_leave_55 : decode cX1_leave 55 = .ok (.aload_n 0, 1) := by decide +kernel
theorem dX1_leave_56 : decode cX1_leave 56 = .ok (.getfield 25, 3) := by decide +kernel
theorem dX1_leave_59 : decode cX1_leave 59 = .ok (.dup, 1) := by decide +kernel
theorem dX1_leave_60 : decode cX1_leave 60 = .ok (.getfield 169, 3) := by decide +kernel
theorem dX1_leave_63 : decode cX1_leave 63 = .ok (.aload_n 0, 1) := by decide +kernel
theorem dX1_leave_64 : decode cX1_leave 64 = .ok (.sipush 130, 3) := by decide +kernel
theorem dX1_leave_67 : decode cX1_leave 67 = .ok (.aload_n 2, 1) := by decide +kernel
theorem dX1_leave_68 : decode cX1_leave 68 = .ok (.invokevirtual 138, 3) := by decide +kernel
theorem dX1_leave_71 : decode cX1_leave 71 = .ok (.iadd, 1) := by decide +kernel
theorem dX1_leave_72 : decode cX1_leave 72 = .ok (.putfield 169, 3) := by decide +kernel
theorem dX1_leave_75 : decode cX1_leave 75 = .ok (.aload_n 0, 1) := by decide +kernel
theorem dX1_leave_76 : decode cX1_leave 76 = .ok (.getfield 33, 3) := by decide +kernel
theorem dX1_leave_79 : decode cX1_leave 79 = .ok (.aload_n 0, 1) := by decide +kernel
theorem dX1_leave_80 : decode cX1_leave 80 = .ok (.getfield 25, 3) := by decide +kernel
theorem dX1_leave_83 : decode cX1_leave 83 = .ok (.iconst 3, 1) := by decide +kernel
theorem dX1_leave_84 : decode cX1_leave 84 = .ok (.iload_n 1, 1) := by decide +kernel
theorem dX1_leave_85 : decode cX1_leave 85 = .ok (.aload_n 2, 1) := by decide +kernel
theorem dX1_leave_86 : decode cX1_leave 86 = .ok (.getfield 61, 3) := by decide +kernel
theorem dX1_leave_89 : decode cX1_leave 89 = .ok (.invokevirtual 76, 3) := by decide +kernel
theorem dX1_leave_92 : decode cX1_leave 92 = .ok (.aload_n 2, 1) := by decide +kernel
theorem dX1_leave_93 : decode cX1_leave 93 = .ok (.getfield 61, 3) := by decide +kernel
theorem dX1_leave_96 : decode cX1_leave 96 = .ok (.ifCond .ne 57, 3) := by decide +kernel
theorem dX1_leave_99 : decode cX1_leave 99 = .ok (.aload_n 0, 1) := by decide +kernel
theorem dX1_leave_100 : decode cX1_leave 100 = .ok (.aload_n 0, 1) := by decide +kernel
theorem dX1_leave_101 : decode cX1_leave 101 = .ok (.sipush 129, 3) := by decide +kernel
theorem dX1_leave_104 : decode cX1_leave 104 = .ok (.aload_n 2, 1) := by decide +kernel
theorem dX1_leave_105 : decode cX1_leave 105 = .ok (.invokevirtual 138, 3) := by decide +kernel
theorem dX1_leave_108 : decode cX1_leave 108 = .ok (.invokevirtual 141, 3) := by decide +kernel
theorem dX1_leave_111 : decode cX1_leave 111 = .ok (.ifCond .eq 42, 3) := by decide +kernel
theorem dX1_leave_114 : decode cX1_leave 114 = .ok (.aload_n 2, 1) := by decide +kernel
theorem dX1_leave_115 : decode cX1_leave 115 = .ok (.dup, 1) := by decide +kernel
theorem dX1_leave_116 : decode cX1_leave 116 = .ok (.getfield 172, 3) := by decide +kernel
theorem dX1_leave_119 : decode cX1_leave 119 = .ok (.iconst 1, 1) := by decide +kernel
theorem dX1_leave_120 : decode cX1_leave 120 = .ok (.iadd, 1) := by decide +kernel
theorem dX1_leave_121 : decode cX1_leave 121 = .ok (.putfield 172, 3) := by decide +kernel
theorem dX1_leave_124 : decode cX1_leave 124 = .ok (.aload_n 0, 1) := by decide +kernel
theorem dX1_leave_125 : decode cX1_leave 125 = .ok (.getfield 25, 3) := by decide +kernel
theorem dX1_leave_128 : decode cX1_leave 128 = .ok (.dup, 1) := by decide +kernel
theorem dX1_leave_129 : decode cX1_leave 129 = .ok (.getfield 169, 3) := by decide +kernel
theorem dX1_leave_132 : decode cX1_leave 132 = .ok (.bipush 50, 2) := by decide +kernel
theorem dX1_leave_134 : decode cX1_leave 134 = .ok (.iadd, 1) := by decide +kernel
theorem dX1_leave_135 : decode cX1_leave 135 = .ok (.putfield 169, 3) := by decide +kernel
theorem dX1_leave_138 : decode cX1_leave 138 = .ok (.aload_n 0, 1) := by decide +kernel
theorem dX1_leave_139 : decode cX1_leave 139 = .ok (.getfield 33, 3) := by decide +kernel
theorem dX1_leave_142 : decode cX1_leave 142 = .ok (.aload_n 0, 1) := by decide +kernel
theorem dX1_leave_143 : decode cX1_leave 143 = .ok (.getfield 25, 3) := by decide +kernel
theorem dX1_leave_146 : decode cX1_leave 146 = .ok (.iconst 4, 1) := by decide +kernel
theorem dX1_leave_147 : decode cX1_leave 147 = .ok (.iload_n 1, 1) := by decide +kernel
theorem dX1_leave_148 : decode cX1_leave 148 = .ok (.bipush 50, 2) := by decide +kernel
theorem dX1_leave_150 : decode cX1_leave 150 = .ok (.invokevirtual 76, 3) := by decide +kernel
theorem dX1_leave_153 : decode cX1_leave 153 = .ok (.aload_n 2, 1) := by decide +kernel
theorem dX1_leave_154 : decode cX1_leave 154 = .ok (.iconst 0, 1) := by decide +kernel
theorem dX1_leave_155 : decode cX1_leave 155 = .ok (.putfield 47, 3) := by decide +kernel
theorem dX1_leave_158 : decode cX1_leave 158 = .ok (.return_, 1) := by decide +kernel
theorem dX1_falls_0 : decode cX1_falls 0 = .ok (.aload_n 0, 1) := by decide +kernel
theorem dX1_falls_1 : decode cX1_falls 1 = .ok (.getfield 175, 3) := by decide +kernel
theorem dX1_falls_4 : decode cX1_falls 4 = .ok (.ifCond .eq 16, 3) := by decide +kernel
theorem dX1_falls_7 : decode cX1_falls 7 = .ok (.iload_n 1, 1) := by decide +kernel
theorem dX1_falls_8 : decode cX1_falls 8 = .ok (.sipush 500, 3) := by decide +kernel
theorem dX1_falls_11 : decode cX1_falls 11 = .ok (.if_icmp .lt 7, 3) := by decide +kernel
theorem dX1_falls_14 : decode cX1_falls 14 = .ok (.iconst 1, 1) := by decide +kernel
theorem dX1_falls_15 : decode cX1_falls 15 = .ok (.goto 4, 3) := by decide +kernel
theorem dX1_falls_18 : decode cX1_falls 18 = .ok (.iconst 0, 1) := by decide +kernel
theorem dX1_falls_19 : decode cX1_falls 19 = .ok (.ireturn, 1) := by decide +kernel
theorem dX1_falls_20 : decode cX1_falls 20 = .ok (.iload_n 1, 1) := by decide +kernel
theorem dX1_falls_21 : decode cX1_falls 21 = .ok (.ifCond .le 18, 3) := by decide +kernel
theorem dX1_falls_24 : decode cX1_falls 24 = .ok (.aload_n 0, 1) := by decide +kernel
theorem dX1_falls_25 : decode cX1_falls 25 = .ok (.getfield 25, 3) := by decide +kernel
theorem dX1_falls_28 : decode cX1_falls 28 = .ok (.invokevirtual 178, 3) := by decide +kernel
theorem dX1_falls_31 : decode cX1_falls 31 = .ok (.iload_n 1, 1) := by decide +kernel
theorem dX1_falls_32 : decode cX1_falls 32 = .ok (.if_icmp .ge 7, 3) := by decide +kernel
theorem dX1_falls_35 : decode cX1_falls 35 = .ok (.iconst 1, 1) := by decide +kernel
theorem dX1_falls_36 : decode cX1_falls 36 = .ok (.goto 4, 3) := by decide +kernel
theorem dX1_falls_39 : decode cX1_falls 39 = .ok (.iconst 0, 1) := by decide +kernel
theorem dX1_falls_40 : decode cX1_falls 40 = .ok (.ireturn, 1) := by decide +kernel
theorem dX1_actAlone_0 : decode cX1_actAlone 0 = .ok (.aload_n 0, 1) := by decide +kernel
theorem dX1_actAlone_1 : decode cX1_actAlone 1 = .ok (.getfield 29, 3) := by decide +kernel
theorem dX1_actAlone_4 : decode cX1_actAlone 4 = .ok (.iload_n 1, 1) := by decide +kernel
theorem dX1_actAlone_5 : decode cX1_actAlone 5 = .ok (.aload_n 2, 1) := by decide +kernel
theorem dX1_actAlone_6 : decode cX1_actAlone 6 = .ok (.invokevirtual 125, 3) := by decide +kernel
theorem dX1_actAlone_9 : decode cX1_actAlone 9 = .ok (.istore_n 3, 1) := by decide +kernel
theorem dX1_actAlone_10 : decode cX1_actAlone 10 = .ok (.iload_n 3, 1) := by decide +kernel
theorem dX1_actAlone_11 : decode cX1_actAlone 11 = .ok (.sipush 154, 3) := by decide +kernel
theorem dX1_actAlone_14 : decode cX1_actAlone 14 = .ok (.if_icmp .ne 4, 3) := by decide +kernel
theorem dX1_actAlone_17 : decode cX1_actAlone 17 = .ok (.return_, 1) := by decide +kernel
theorem dX1_actAlone_18 : decode cX1_actAlone 18 = .ok (.iload_n 3, 1) := by decide +kernel
theorem dX1_actAlone_19 : decode cX1_actAlone 19 = .ok (.sipush 150, 3) := by decide +kernel
theorem dX1_actAlone_22 : decode cX1_actAlone 22 = .ok (.if_icmp .eq 13, 3) := by decide +kernel
theorem dX1_actAlone_25 : decode cX1_actAlone 25 = .ok (.aload_n 2, 1) := by decide +kernel
theorem dX1_actAlone_26 : decode cX1_actAlone 26 = .ok (.iload_n 3, 1) := by decide +kernel
theorem dX1_actAlone_27 : decode cX1_actAlone 27 = .ok (.sipush 151, 3) := by decide +kernel
theorem dX1_actAlone_30 : decode cX1_actAlone 30 = .ok (.isub, 1) := by decide +kernel
theorem dX1_actAlone_31 : decode cX1_actAlone 31 = .ok (.invokevirtual 58, 3) := by decide +kernel
theorem dX1_actAlone_34 : decode cX1_actAlone 34 = .ok (.return_, 1) := by decide +kernel
theorem dX1_actAlone_35 : decode cX1_actAlone 35 = .ok (.aload_n 2, 1) := by decide +kernel
theorem dX1_actAlone_36 : decode cX1_actAlone 36 = .ok (.invokevirtual 151, 3) := by decide +kernel
theorem dX1_actAlone_39 : decode cX1_actAlone 39 = .ok (.istore 4, 2) := by decide +kernel
theorem dX1_actAlone_41 : decode cX1_actAlone 41 = .ok (.iload 4, 2) := by decide +kernel
theorem dX1_actAlone_43 : decode cX1_actAlone 43 = .ok (.iconst (-1), 1) := by decide +kernel
theorem dX1_actAlone_44 : decode cX1_actAlone 44 = .ok (.if_icmp .ne 11, 3) := by decide +kernel
theorem dX1_actAlone_47 : decode cX1_actAlone 47 = .ok (.aload_n 2, 1) := by decide +kernel
theorem dX1_actAlone_48 : decode cX1_actAlone 48 = .ok (.iconst 0, 1) := by decide +kernel
theorem dX1_actAlone_49 : decode cX1_actAlone 49 = .ok (.putfield 47, 3) := by decide +kernel
theorem dX1_actAlone_52 : decode cX1_actAlone 52 = .ok (.goto 23, 3) := by decide +kernel
theorem dX1_actAlone_55 : decode cX1_actAlone 55 = .ok (.aload_n 0, 1) := by decide +kernel
theorem dX1_actAlone_56 : decode cX1_actAlone 56 = .ok (.getfield 25, 3) := by decide +kernel
theorem dX1_actAlone_59 : decode cX1_actAlone 59 = .ok (.getfield 64, 3) := by decide +kernel
theorem dX1_actAlone_62 : decode cX1_actAlone 62 = .ok (.iload 4, 2) := by decide +kernel
theorem dX1_actAlone_64 : decode cX1_actAlone 64 = .ok (.iaload, 1) := by decide +kernel
theorem dX1_actAlone_65 : decode cX1_actAlone 65 = .ok (.iconst 1, 1) := by decide +kernel
theorem dX1_actAlone_66 : decode cX1_actAlone 66 = .ok (.if_icmp .eq 9, 3) := by decide +kernel
theorem dX1_actAlone_69 : decode cX1_actAlone 69 = .ok (.aload_n 2, 1) := by decide +kernel
theorem dX1_actAlone_70 : decode cX1_actAlone 70 = .ok (.iload 4, 2) := by decide +kernel
theorem dX1_actAlone_72 : decode cX1_actAlone 72 = .ok (.invokevirtual 157, 3) := by decide +kernel
theorem dX1_actAlone_75 : decode cX1_actAlone 75 = .ok (.return_, 1) := by decide +kernel
theorem dX2_init_0 : decode cX2_init 0 = .ok (.aload_n 0, 1) := by decide +kernel
theorem dX2_init_1 : decode cX2_init 1 = .ok (.invokespecial 3, 3) := by decide +kernel
theorem dX2_init_4 : decode cX2_init 4 = .ok (.aload_n 0, 1) := by decide +kernel
theorem dX2_init_5 : decode cX2_init 5 = .ok (.sipush 576, 3) := by decide +kernel
theorem dX2_init_8 : decode cX2_init 8 = .ok (.newarray .int, 2) := by decide +kernel
theorem dX2_init_10 : decode cX2_init 10 = .ok (.putfield 11, 3) := by decide +kernel
theorem dX2_init_13 : decode cX2_init 13 = .ok (.aload_n 0, 1) := by decide +kernel
theorem dX2_init_14 : decode cX2_init 14 = .ok (.sipush 576, 3) := by decide +kernel
theorem dX2_init_17 : decode cX2_init 17 = .ok (.newarray .int, 2) := by decide +kernel
theorem dX2_init_19 : decode cX2_init 19 = .ok (.putfield 15, 3) := by decide +kernel
theorem dX2_init_22 : decode cX2_init 22 = .ok (.aload_n 0, 1) := by decide +kernel
theorem dX2_init_23 : decode cX2_init 23 = .ok (.sipush 576, 3) := by decide +kernel
theorem dX2_init_26 : decode cX2_init 26 = .ok (.newarray .int, 2) := by decide +kernel
theorem dX2_init_28 : decode cX2_init 28 = .ok (.putfield 18, 3) := by decide +kernel
theorem dX2_init_31 : decode cX2_init 31 = .ok (.aload_n 0, 1) := by decide +kernel
theorem dX2_init_32 : decode cX2_init 32 = .ok (.sipush 4032, 3) := by decide +kernel
theorem dX2_init_35 : decode cX2_init 35 = .ok (.newarray .int, 2) := by decide +kernel
theorem dX2_init_37 : decode cX2_init 37 = .ok (.putfield 21, 3) := by decide +kernel
theorem dX2_init_40 : decode cX2_init 40 = .ok (.aload_n 0, 1) := by decide +kernel
theorem dX2_init_41 : decode cX2_init 41 = .ok (.sipush 4032, 3) := by decide +kernel
theorem dX2_init_44 : decode cX2_init 44 = .ok (.newarray .int, 2) := by decide +kernel
theorem dX2_init_46 : decode cX2_init 46 = .ok (.putfield 24, 3) := by decide +kernel
theorem dX2_init_49 : decode cX2_init 49 = .ok (.aload_n 0, 1) := by decide +kernel
theorem dX2_init_50 : decode cX2_init 50 = .ok (.iconst 4, 1) := by decide +kernel
theorem dX2_init_51 : decode cX2_init 51 = .ok (.newarray .int, 2) := by decide +kernel
theorem dX2_init_53 : decode cX2_init 53 = .ok (.putfield 27, 3) := by decide +kernel
theorem dX2_init_56 : decode cX2_init 56 = .ok (.aload_n 0, 1) := by decide +kernel
theorem dX2_init_57 : decode cX2_init 57 = .ok (.iconst 4, 1) := by decide +kernel
theorem dX2_init_58 : decode cX2_init 58 = .ok (.newarray .int, 2) := by decide +kernel
theorem dX2_init_60 : decode cX2_init 60 = .ok (.putfield 30, 3) := by decide +kernel
theorem dX2_init_63 : decode cX2_init 63 = .ok (.aload_n 0, 1) := by decide +kernel
theorem dX2_init_64 : decode cX2_init 64 = .ok (.aload_n 1, 1) := by decide +kernel
theorem dX2_init_65 : decode cX2_init 65 = .ok (.putfield 33, 3) := by decide +kernel
theorem dX2_init_68 : decode cX2_init 68 = .ok (.return_, 1) := by decide +kernel
theorem dX2_free_0 : decode cX2_free 0 = .ok (.iload_n 1, 1) := by decide +kernel
theorem dX2_free_1 : decode cX2_free 1 = .ok (.invokestatic 36, 3) := by decide +kernel
theorem dX2_free_4 : decode cX2_free 4 = .ok (.ifCond .eq 17, 3) := by decide +kernel
theorem dX2_free_7 : decode cX2_free 7 = .ok (.aload_n 0, 1) := by decide +kernel
theorem dX2_free_8 : decode cX2_free 8 = .ok (.getfield 33, 3) := by decide +kernel
theorem dX2_free_11 : decode cX2_free 11 = .ok (.iload_n 1, 1) := by decide +kernel
theorem dX2_free_12 : decode cX2_free 12 = .ok (.iaload, 1) := by decide +kernel
theorem dX2_free_13 : decode cX2_free 13 = .ok (.iconst 1, 1) := by decide +kernel
theorem dX2_free_14 : decode cX2_free 14 = .ok (.if_icmp .eq 7, 3) := by decide +kernel
theorem dX2_free_17 : decode cX2_free 17 = .ok (.iconst 1, 1) := by decide +kernel
theorem dX2_free_18 : decode cX2_free 18 = .ok (.goto 4, 3) := by decide +kernel
theorem dX2_free_21 : decode cX2_free 21 = .ok (.iconst 0, 1) := by decide +kernel
theorem dX2_free_22 : decode cX2_free 22 = .ok (.ireturn, 1) := by decide +kernel
theorem dX2_least_0 : decode cX2_least 0 = .ok (.aload_n 0, 1) := by decide +kernel
theorem dX2_least_1 : decode cX2_least 1 = .ok (.getfield 11, 3) := by decide +kernel
theorem dX2_least_4 : decode cX2_least 4 = .ok (.iconst (-1), 1) := by decide +kernel
theorem dX2_least_5 : decode cX2_least 5 = .ok (.invokestatic 40, 3) := by decide +kernel
theorem dX2_least_8 : decode cX2_least 8 = .ok (.sipush 144, 3) := by decide +kernel
theorem dX2_least_11 : decode cX2_least 11 = .ok (.iload_n 2, 1) := by decide +kernel
theorem dX2_least_12 : decode cX2_least 12 = .ok (.imul, 1) := by decide +kernel
theorem dX2_least_13 : decode cX2_least 13 = .ok (.iload_n 1, 1) := by decide +kernel
theorem dX2_least_14 : decode cX2_least 14 = .ok (.iadd, 1) := by decide +kernel
theorem dX2_least_15 : decode cX2_least 15 = .ok (.istore 4, 2) := by decide +kernel
theorem dX2_least_17 : decode cX2_least 17 = .ok (.aload_n 0, 1) := by decide +kernel
theorem dX2_least_18 : decode cX2_least 18 = .ok (.getfield 11, 3) := by decide +kernel
theorem dX2_least_21 : decode cX2_least 21 = .ok (.iload 4, 2) := by decide +kernel
theorem dX2_least_23 : decode cX2_least 23 = .ok (.iconst 0, 1) := by decide +kernel
theorem dX2_least_24 : decode cX2_least 24 = .ok (.iastore, 1) := by decide +kernel
theorem dX2_least_25 : decode cX2_least 25 = .ok (.aload_n 0, 1) := by decide +kernel
theorem dX2_least_26 : decode cX2_least 26 = .ok (.getfield 18, 3) := by decide +kernel
theorem dX2_least_29 : decode cX2_least 29 = .ok (.iconst 0, 1) := by decide +kernel
theorem dX2_least_30 : decode cX2_least 30 = .ok (.iload 4, 2) := by decide +kernel
theorem dX2_least_32 : decode cX2_least 32 = .ok (.iastore, 1) := by decide +kernel
theorem dX2_least_33 : decode cX2_least 33 = .ok (.iconst 1, 1) := by decide +kernel
theorem dX2_least_34 : decode cX2_least 34 = .ok (.istore 5, 2) := by decide +kernel
theorem dX2_least_36 : decode cX2_least 36 = .ok (.iconst 0, 1) := by decide +kernel
theorem dX2_least_37 : decode cX2_least 37 = .ok (.istore 6, 2) := by decide +kernel
theorem dX2_least_39 : decode cX2_least 39 = .ok (.iload 6, 2) := by decide +kernel
theorem dX2_least_41 : decode cX2_least 41 = .ok (.iload 5, 2) := by decide +kernel
theorem dX2_least_43 : decode cX2_least 43 = .ok (.if_icmp .ge 114, 3) := by decide +kernel
theorem dX2_least_46 : decode cX2_least 46 = .ok (.aload_n 0, 1) := by decide +kernel
theorem dX2_least_47 : decode cX2_least 47 = .ok (.getfield 18, 3) := by decide +kernel
theorem dX2_least_50 : decode cX2_least 50 = .ok (.iload 6, 2) := by decide +kernel
theorem dX2_least_52 : decode cX2_least 52 = .ok (.iaload, 1) := by decide +kernel
theorem dX2_least_53 : decode cX2_least 53 = .ok (.istore 7, 2) := by decide +kernel
theorem dX2_least_55 : decode cX2_least 55 = .ok (.iload 7, 2) := by decide +kernel
theorem dX2_least_57 : decode cX2_least 57 = .ok (.sipush 144, 3) := by decide +kernel
theorem dX2_least_60 : decode cX2_least 60 = .ok (.irem, 1) := by decide +kernel
theorem dX2_least_61 : decode cX2_least 61 = .ok (.iload_n 3, 1) := by decide +kernel
theorem dX2_least_62 : decode cX2_least 62 = .ok (.if_icmp .ne 11, 3) := by decide +kernel
theorem dX2_least_65 : decode cX2_least 65 = .ok (.aload_n 0, 1) := by decide +kernel
theorem dX2_least_66 : decode cX2_least 66 = .ok (.getfield 11, 3) := by decide +kernel
theorem dX2_least_69 : decode cX2_least 69 = .ok (.iload 7, 2) := by decide +kernel
theorem dX2_least_71 : decode cX2_least 71 = .ok (.iaload, 1) := by decide +kernel
theorem dX2_least_72 : decode cX2_least 72 = .ok (.ireturn, 1) := by decide +kernel
theorem dX2_least_73 : decode cX2_least 73 = .ok (.iconst 0, 1) := by decide +kernel
theorem dX2_least_74 : decode cX2_least 74 = .ok (.istore 8, 2) := by decide +kernel
theorem dX2_least_76 : decode cX2_least 76 = .ok (.iload 8, 2) := by decide +kernel
theorem dX2_least_78 : decode cX2_least 78 = .ok (.iconst 3, 1) := by decide +kernel
theorem dX2_least_79 : decode cX2_least 79 = .ok (.if_icmp .ge 72, 3) := by decide +kernel
theorem dX2_least_82 : decode cX2_least 82 = .ok (.aload_n 0, 1) := by decide +kernel
theorem dX2_least_83 : decode cX2_least 83 = .ok (.iload 7, 2) := by decide +kernel
theorem dX2_least_85 : decode cX2_least 85 = .ok (.iload 8, 2) := by decide +kernel
theorem dX2_least_87 : decode cX2_least 87 = .ok (.invokevirtual 46, 3) := by decide +kernel
theorem dX2_least_90 : decode cX2_least 90 = .ok (.istore 9, 2) := by decide +kernel
theorem dX2_least_92 : decode cX2_least 92 = .ok (.iload 9, 2) := by decide +kernel
theorem dX2_least_94 : decode cX2_least 94 = .ok (.iconst (-1), 1) := by decide +kernel
theorem dX2_least_95 : decode cX2_least 95 = .ok (.if_icmp .eq 50, 3) := by decide +kernel
theorem dX2_least_98 : decode cX2_least 98 = .ok (.aload_n 0, 1) := by decide +kernel
theorem dX2_least_99 : decode cX2_least 99 = .ok (.getfield 11, 3) := by decide +kernel
theorem dX2_least_102 : decode cX2_least 102 = .ok (.iload 9, 2) := by decide +kernel
theorem dX2_least_104 : decode cX2_least 104 = .ok (.iaload, 1) := by decide +kernel
theorem dX2_least_105 : decode cX2_least 105 = .ok (.iconst (-1), 1) := by decide +kernel
theorem dX2_least_106 : decode cX2_least 106 = .ok (.if_icmp .ne 39, 3) := by decide +kernel
theorem dX2_least_109 : decode cX2_least 109 = .ok (.iload 5, 2) := by decide +kernel
theorem dX2_least_111 : decode cX2_least 111 = .ok (.sipush 576, 3) := by decide +kernel
theorem dX2_least_114 : decode cX2_least 114 = .ok (.if_icmp .ge 31, 3) := by decide +kernel
theorem dX2_least_117 : decode cX2_least 117 = .ok (.aload_n 0, 1) := by decide +kernel
theorem dX2_least_118 : decode cX2_least 118 = .ok (.getfield 11, 3) := by decide +kernel
theorem dX2_least_121 : decode cX2_least 121 = .ok (.iload 9, 2) := by decide +kernel
theorem dX2_least_123 : decode cX2_least 123 = .ok (.aload_n 0, 1) := by decide +kernel
theorem dX2_least_124 : decode cX2_least 124 = .ok (.getfield 11, 3) := by decide +kernel
theorem dX2_least_127 : decode cX2_least 127 = .ok (.iload 7, 2) := by decide +kernel
theorem dX2_least_129 : decode cX2_least 129 = .ok (.iaload, 1) := by decide +kernel
theorem dX2_least_130 : decode cX2_least 130 = .ok (.iconst 1, 1) := by decide +kernel
theorem dX2_least_131 : decode cX2_least 131 = .ok (.iadd, 1) := by decide +kernel
theorem dX2_least_132 : decode cX2_least 132 = .ok (.iastore, 1) := by decide +kernel
theorem dX2_least_133 : decode cX2_least 133 = .ok (.aload_n 0, 1) := by decide +kernel
theorem dX2_least_134 : decode cX2_least 134 = .ok (.getfield 18, 3) := by decide +kernel
theorem dX2_least_137 : decode cX2_least 137 = .ok (.iload 5, 2) := by decide +kernel
theorem dX2_least_139 : decode cX2_least 139 = .ok (.iload 9, 2) := by decide +kernel
theorem dX2_least_141 : decode cX2_least 141 = .ok (.iastore, 1) := by decide +kernel
theorem dX2_least_142 : decode cX2_least 142 = .ok (.iinc 5 1, 3) := by decide +kernel
theorem dX2_least_145 : decode cX2_least 145 = .ok (.iinc 8 1, 3) := by decide +kernel
theorem dX2_least_148 : decode cX2_least 148 = .ok (.goto (-72), 3) := by decide +kernel
theorem dX2_least_151 : decode cX2_least 151 = .ok (.iinc 6 1, 3) := by decide +kernel
theorem dX2_least_154 : decode cX2_least 154 = .ok (.goto (-115), 3) := by decide +kernel
theorem dX2_least_157 : decode cX2_least 157 = .ok (.iconst (-1), 1) := by decide +kernel
theorem dX2_least_158 : decode cX2_least 158 = .ok (.ireturn, 1) := by decide +kernel
theorem dX2_fewestSteps_0 : decode cX2_fewestSteps 0 = .ok (.aload_n 0, 1) := by decide +kernel
theorem dX2_fewestSteps_1 : decode cX2_fewestSteps 1 = .ok (.getfield 11, 3) := by decide +kernel
theorem dX2_fewestSteps_4 : decode cX2_fewestSteps 4 = .ok (.ldc 50, 2) := by decide +kernel
theorem dX2_fewestSteps_6 : decode cX2_fewestSteps 6 = .ok (.invokestatic 40, 3) := by decide +kernel
theorem dX2_fewestSteps_9 : decode cX2_fewestSteps 9 = .ok (.aload_n 0, 1) := by decide +kernel
theorem dX2_fewestSteps_10 : decode cX2_fewestSteps 10 = .ok (.getfield 11, 3) := by decide +kernel
theorem dX2_fewestSteps_13 : decode cX2_fewestSteps 13 = .ok (.sipush 144, 3) := by decide +kernel
theorem dX2_fewestSteps_16 : decode cX2_fewestSteps 16 = .ok (.iload_n 2, 1) := by decide +kernel
theorem dX2_fewestSteps_17 : decode cX2_fewestSteps 17 = .ok (.imul, 1) := by decide +kernel
theorem dX2_fewestSteps_18 : decode cX2_fewestSteps 18 = .ok (.iload_n 1, 1) := by decide +kernel
theorem dX2_fewestSteps_19 : decode cX2_fewestSteps 19 = .ok (.iadd, 1) := by decide +kernel
theorem dX2_fewestSteps_20 : decode cX2_fewestSteps 20 = .ok (.iconst 0, 1) := by decide +kernel
theorem dX2_fewestSteps_21 : decode cX2_fewestSteps 21 = .ok (.iastore, 1) := by decide +kernel
theorem dX2_fewestSteps_22 : decode cX2_fewestSteps 22 = .ok (.aload_n 0, 1) := by decide +kernel
theorem dX2_fewestSteps_23 : decode cX2_fewestSteps 23 = .ok (.invokevirtual 51, 3) := by decide +kernel
theorem dX2_fewestSteps_26 : decode cX2_fewestSteps 26 = .ok (.iconst 0, 1) := by decide +kernel
theorem dX2_fewestSteps_27 : decode cX2_fewestSteps 27 = .ok (.istore 5, 2) := by decide +kernel
theorem dX2_fewestSteps_29 : decode cX2_fewestSteps 29 = .ok (.iload 5, 2) := by decide +kernel
theorem dX2_fewestSteps_31 : decode cX2_fewestSteps 31 = .ok (.iload 4, 2) := by decide +kernel
theorem dX2_fewestSteps_33 : decode cX2_fewestSteps 33 = .ok (.if_icmp .ge 17, 3) := by decide +kernel
theorem dX2_fewestSteps_36 : decode cX2_fewestSteps 36 = .ok (.aload_n 0, 1) := by decide +kernel
theorem dX2_fewestSteps_37 : decode cX2_fewestSteps 37 = .ok (.invokevirtual 54, 3) := by decide +kernel
theorem dX2_fewestSteps_40 : decode cX2_fewestSteps 40 = .ok (.aload_n 0, 1) := by decide +kernel
theorem dX2_fewestSteps_41 : decode cX2_fewestSteps 41 = .ok (.invokevirtual 51, 3) := by decide +kernel
theorem dX2_fewestSteps_44 : decode cX2_fewestSteps 44 = .ok (.iinc 5 1, 3) := by decide +kernel
theorem dX2_fewestSteps_47 : decode cX2_fewestSteps 47 = .ok (.goto (-18), 3) := by decide +kernel
theorem dX2_fewestSteps_50 : decode cX2_fewestSteps 50 = .ok (.ldc 50, 2) := by decide +kernel
theorem dX2_fewestSteps_52 : decode cX2_fewestSteps 52 = .ok (.istore 5, 2) := by decide +kernel
theorem dX2_fewestSteps_54 : decode cX2_fewestSteps 54 = .ok (.iconst 0, 1) := by decide +kernel
theorem dX2_fewestSteps_55 : decode cX2_fewestSteps 55 = .ok (.istore 6, 2) := by decide +kernel
theorem dX2_fewestSteps_57 : decode cX2_fewestSteps 57 = .ok (.iload 6, 2) := by decide +kernel
theorem dX2_fewestSteps_59 : decode cX2_fewestSteps 59 = .ok (.iconst 4, 1) := by decide +kernel
theorem dX2_fewestSteps_60 : decode cX2_fewestSteps 60 = .ok (.if_icmp .ge 29, 3) := by decide +kernel
theorem dX2_fewestSteps_63 : decode cX2_fewestSteps 63 = .ok (.iload 5, 2) := by decide +kernel
theorem dX2_fewestSteps_65 : decode cX2_fewestSteps 65 = .ok (.aload_n 0, 1) := by decide +kernel
theorem dX2_fewestSteps_66 : decode cX2_fewestSteps 66 = .ok (.getfield 11, 3) := by decide +kernel
theorem dX2_fewestSteps_69 : decode cX2_fewestSteps 69 = .ok (.sipush 144, 3) := by decide +kernel
theorem dX2_fewestSteps_72 : decode cX2_fewestSteps 72 = .ok (.iload 6, 2) := by decide +kernel
theorem dX2_fewestSteps_74 : decode cX2_fewestSteps 74 = .ok (.imul, 1) := by decide +kernel
theorem dX2_fewestSteps_75 : decode cX2_fewestSteps 75 = .ok (.iload_n 3, 1) := by decide +kernel
theorem dX2_fewestSteps_76 : decode cX2_fewestSteps 76 = .ok (.iadd, 1) := by decide +kernel
theorem dX2_fewestSteps_77 : decode cX2_fewestSteps 77 = .ok (.iaload, 1) := by decide +kernel
theorem dX2_fewestSteps_78 : decode cX2_fewestSteps 78 = .ok (.invokestatic 57, 3) := by decide +kernel
theorem dX2_fewestSteps_81 : decode cX2_fewestSteps 81 = .ok (.istore 5, 2) := by decide +kernel
theorem dX2_fewestSteps_83 : decode cX2_fewestSteps 83 = .ok (.iinc 6 1, 3) := by decide +kernel
theorem dX2_fewestSteps_86 : decode cX2_fewestSteps 86 = .ok (.goto (-29), 3) := by decide +kernel
theorem dX2_fewestSteps_89 : decode cX2_fewestSteps 89 = .ok (.iload 5, 2) := by decide +kernel
theorem dX2_fewestSteps_91 : decode cX2_fewestSteps 91 = .ok (.ldc 50, 2) := by decide +kernel
theorem dX2_fewestSteps_93 : decode cX2_fewestSteps 93 = .ok (.if_icmp .lt 7, 3) := by decide +kernel
theorem dX2_fewestSteps_96 : decode cX2_fewestSteps 96 = .ok (.iconst (-1), 1) := by decide +kernel
theorem dX2_fewestSteps_97 : decode cX2_fewestSteps 97 = .ok (.goto 5, 3) := by decide +kernel
theorem dX2_fewestSteps_100 : decode cX2_fewestSteps 100 = .ok (.iload 5, 2) := by decide +kernel
theorem dX2_fewestSteps_102 : decode cX2_fewestSteps 102 = .ok (.ireturn, 1) := by decide +kernel
theorem dX2_countRows_0 : decode cX2_countRows 0 = .ok (.aload_n 0, 1) := by decide +kernel
theorem dX2_countRows_1 : decode cX2_countRows 1 = .ok (.getfield 24, 3) := by decide +kernel
theorem dX2_countRows_4 : decode cX2_countRows 4 = .ok (.iconst 0, 1) := by decide +kernel
theorem dX2_countRows_5 : decode cX2_countRows 5 = .ok (.invokestatic 40, 3) := by decide +kernel
theorem dX2_countRows_8 : decode cX2_countRows 8 = .ok (.aload_n 0, 1) := by decide +kernel
theorem dX2_countRows_9 : decode cX2_countRows 9 = .ok (.getfield 24, 3) := by decide +kernel
theorem dX2_countRows_12 : decode cX2_countRows 12 = .ok (.sipush 144, 3) := by decide +kernel
theorem dX2_countRows_15 : decode cX2_countRows 15 = .ok (.iload_n 2, 1) := by decide +kernel
theorem dX2_countRows_16 : decode cX2_countRows 16 = .ok (.imul, 1) := by decide +kernel
theorem dX2_countRows_17 : decode cX2_countRows 17 = .ok (.iload_n 1, 1) := by decide +kernel
theorem dX2_countRows_18 : decode cX2_countRows 18 = .ok (.iadd, 1) := by decide +kernel
theorem dX2_countRows_19 : decode cX2_countRows 19 = .ok (.iconst 1, 1) := by decide +kernel
theorem dX2_countRows_20 : decode cX2_countRows 20 = .ok (.iastore, 1) := by decide +kernel
theorem dX2_countRows_21 : decode cX2_countRows 21 = .ok (.aload_n 0, 1) := by decide +kernel
theorem dX2_countRows_22 : decode cX2_countRows 22 = .ok (.iload 5, 2) := by decide +kernel
theorem dX2_countRows_24 : decode cX2_countRows 24 = .ok (.invokevirtual 62, 3) := by decide +kernel
theorem dX2_countRows_27 : decode cX2_countRows 27 = .ok (.iconst 0, 1) := by decide +kernel
theorem dX2_countRows_28 : decode cX2_countRows 28 = .ok (.istore 6, 2) := by decide +kernel
theorem dX2_countRows_30 : decode cX2_countRows 30 = .ok (.iload 6, 2) := by decide +kernel
theorem dX2_countRows_32 : decode cX2_countRows 32 = .ok (.iload 4, 2) := by decide +kernel
theorem dX2_countRows_34 : decode cX2_countRows 34 = .ok (.if_icmp .ge 21, 3) := by decide +kernel
theorem dX2_countRows_37 : decode cX2_countRows 37 = .ok (.aload_n 0, 1) := by decide +kernel
theorem dX2_countRows_38 : decode cX2_countRows 38 = .ok (.iload 5, 2) := by decide +kernel
theorem dX2_countRows_40 : decode cX2_countRows 40 = .ok (.invokevirtual 66, 3) := by decide +kernel
theorem dX2_countRows_43 : decode cX2_countRows 43 = .ok (.aload_n 0, 1) := by decide +kernel
theorem dX2_countRows_44 : decode cX2_countRows 44 = .ok (.iload 5, 2) := by decide +kernel
theorem dX2_countRows_46 : decode cX2_countRows 46 = .ok (.invokevirtual 62, 3) := by decide +kernel
theorem dX2_countRows_49 : decode cX2_countRows 49 = .ok (.iinc 6 1, 3) := by decide +kernel
theorem dX2_countRows_52 : decode cX2_countRows 52 = .ok (.goto (-22), 3) := by decide +kernel
theorem dX2_countRows_55 : decode cX2_countRows 55 = .ok (.iconst 0, 1) := by decide +kernel
theorem dX2_countRows_56 : decode cX2_countRows 56 = .ok (.istore 6, 2) := by decide +kernel
theorem dX2_countRows_58 : decode cX2_countRows 58 = .ok (.iconst 0, 1) := by decide +kernel
theorem dX2_countRows_59 : decode cX2_countRows 59 = .ok (.istore 7, 2) := by decide +kernel
theorem dX2_countRows_61 : decode cX2_countRows 61 = .ok (.iload 7, 2) := by decide +kernel
theorem dX2_countRows_63 : decode cX2_countRows 63 = .ok (.iconst 4, 1) := by decide +kernel
theorem dX2_countRows_64 : decode cX2_countRows 64 = .ok (.if_icmp .ge 36, 3) := by decide +kernel
theorem dX2_countRows_67 : decode cX2_countRows 67 = .ok (.iload 6, 2) := by decide +kernel
theorem dX2_countRows_69 : decode cX2_countRows 69 = .ok (.aload_n 0, 1) := by decide +kernel
theorem dX2_countRows_70 : decode cX2_countRows 70 = .ok (.getfield 21, 3) := by decide +kernel
theorem dX2_countRows_73 : decode cX2_countRows 73 = .ok (.sipush 576, 3) := by decide +kernel
theorem dX2_countRows_76 : decode cX2_countRows 76 = .ok (.iload 5, 2) := by decide +kernel
theorem dX2_countRows_78 : decode cX2_countRows 78 = .ok (.imul, 1) := by decide +kernel
theorem dX2_countRows_79 : decode cX2_countRows 79 = .ok (.sipush 144, 3) := by decide +kernel
theorem dX2_countRows_82 : decode cX2_countRows 82 = .ok (.iload 7, 2) := by decide +kernel
theorem dX2_countRows_84 : decode cX2_countRows 84 = .ok (.imul, 1) := by decide +kernel
theorem dX2_countRows_85 : decode cX2_countRows 85 = .ok (.iadd, 1) := by decide +kernel
theorem dX2_countRows_86 : decode cX2_countRows 86 = .ok (.iload_n 3, 1) := by decide +kernel
theorem dX2_countRows_87 : decode cX2_countRows 87 = .ok (.iadd, 1) := by decide +kernel
theorem dX2_countRows_88 : decode cX2_countRows 88 = .ok (.iaload, 1) := by decide +kernel
theorem dX2_countRows_89 : decode cX2_countRows 89 = .ok (.invokestatic 69, 3) := by decide +kernel
theorem dX2_countRows_92 : decode cX2_countRows 92 = .ok (.istore 6, 2) := by decide +kernel
theorem dX2_countRows_94 : decode cX2_countRows 94 = .ok (.iinc 7 1, 3) := by decide +kernel
theorem dX2_countRows_97 : decode cX2_countRows 97 = .ok (.goto (-36), 3) := by decide +kernel
theorem dX2_countRows_100 : decode cX2_countRows 100 = .ok (.iload 6, 2) := by decide +kernel
theorem dX2_countRows_102 : decode cX2_countRows 102 = .ok (.ireturn, 1) := by decide +kernel
theorem dX2_sees_0 : decode cX2_sees 0 = .ok (.iload_n 2, 1) := by decide +kernel
theorem dX2_sees_1 : decode cX2_sees 1 = .ok (.bipush 12, 2) := by decide +kernel
theorem dX2_sees_3 : decode cX2_sees 3 = .ok (.irem, 1) := by decide +kernel
theorem dX2_sees_4 : decode cX2_sees 4 = .ok (.iload_n 1, 1) := by decide +kernel
theorem dX2_sees_5 : decode cX2_sees 5 = .ok (.bipush 12, 2) := by decide +kernel
theorem dX2_sees_7 : decode cX2_sees 7 = .ok (.irem, 1) := by decide +kernel
theorem dX2_sees_8 : decode cX2_sees 8 = .ok (.isub, 1) := by decide +kernel
theorem dX2_sees_9 : decode cX2_sees 9 = .ok (.istore_n 3, 1) := by decide +kernel
theorem dX2_sees_10 : decode cX2_sees 10 = .ok (.iload_n 2, 1) := by decide +kernel
theorem dX2_sees_11 : decode cX2_sees 11 = .ok (.bipush 12, 2) := by decide +kernel
theorem dX2_sees_13 : decode cX2_sees 13 = .ok (.idiv, 1) := by decide +kernel
theorem dX2_sees_14 : decode cX2_sees 14 = .ok (.iload_n 1, 1) := by decide +kernel
theorem dX2_sees_15 : decode cX2_sees 15 = .ok (.bipush 12, 2) := by decide +kernel
theorem dX2_sees_17 : decode cX2_sees 17 = .ok (.idiv, 1) := by decide +kernel
theorem dX2_sees_18 : decode cX2_sees 18 = .ok (.isub, 1) := by decide +kernel
theorem dX2_sees_19 : decode cX2_sees 19 = .ok (.istore 4, 2) := by decide +kernel
theorem dX2_sees_21 : decode cX2_sees 21 = .ok (.iload_n 3, 1) := by decide +kernel
theorem dX2_sees_22 : decode cX2_sees 22 = .ok (.invokestatic 72, 3) := by decide +kernel
theorem dX2_sees_25 : decode cX2_sees 25 = .ok (.iload 4, 2) := by decide +kernel
theorem dX2_sees_27 : decode cX2_sees 27 = .ok (.invokestatic 72, 3) := by decide +kernel
theorem dX2_sees_30 : decode cX2_sees 30 = .ok (.invokestatic 76, 3) := by decide +kernel
theorem dX2_sees_33 : decode cX2_sees 33 = .ok (.istore 5, 2) := by decide +kernel
theorem dX2_sees_35 : decode cX2_sees 35 = .ok (.iconst 1, 1) := by decide +kernel
theorem dX2_sees_36 : decode cX2_sees 36 = .ok (.istore 6, 2) := by decide +kernel
theorem dX2_sees_38 : decode cX2_sees 38 = .ok (.iload 6, 2) := by decide +kernel
theorem dX2_sees_40 : decode cX2_sees 40 = .ok (.iload 5, 2) := by decide +kernel
theorem dX2_sees_42 : decode cX2_sees 42 = .ok (.if_icmp .ge 61, 3) := by decide +kernel
theorem dX2_sees_45 : decode cX2_sees 45 = .ok (.iload_n 1, 1) := by decide +kernel
theorem dX2_sees_46 : decode cX2_sees 46 = .ok (.bipush 12, 2) := by decide +kernel
theorem dX2_sees_48 : decode cX2_sees 48 = .ok (.irem, 1) := by decide +kernel
theorem dX2_sees_49 : decode cX2_sees 49 = .ok (.iload_n 3, 1) := by decide +kernel
theorem dX2_sees_50 : decode cX2_sees 50 = .ok (.iload 6, 2) := by decide +kernel
theorem dX2_sees_52 : decode cX2_sees 52 = .ok (.imul, 1) := by decide +kernel
theorem dX2_sees_53 : decode cX2_sees 53 = .ok (.iload 5, 2) := by decide +kernel
theorem dX2_sees_55 : decode cX2_sees 55 = .ok (.invokestatic 79, 3) := by decide +kernel
theorem dX2_sees_58 : decode cX2_sees 58 = .ok (.iadd, 1) := by decide +kernel
theorem dX2_sees_59 : decode cX2_sees 59 = .ok (.istore 7, 2) := by decide +kernel
theorem dX2_sees_61 : decode cX2_sees 61 = .ok (.iload_n 1, 1) := by decide +kernel
theorem dX2_sees_62 : decode cX2_sees 62 = .ok (.bipush 12, 2) := by decide +kernel
theorem dX2_sees_64 : decode cX2_sees 64 = .ok (.idiv, 1) := by decide +kernel
theorem dX2_sees_65 : decode cX2_sees 65 = .ok (.iload 4, 2) := by decide +kernel
theorem dX2_sees_67 : decode cX2_sees 67 = .ok (.iload 6, 2) := by decide +kernel
theorem dX2_sees_69 : decode cX2_sees 69 = .ok (.imul, 1) := by decide +kernel
theorem dX2_sees_70 : decode cX2_sees 70 = .ok (.iload 5, 2) := by decide +kernel
theorem dX2_sees_72 : decode cX2_sees 72 = .ok (.invokestatic 79, 3) := by decide +kernel
theorem dX2_sees_75 : decode cX2_sees 75 = .ok (.iadd, 1) := by decide +kernel
theorem dX2_sees_76 : decode cX2_sees 76 = .ok (.istore 8, 2) := by decide +kernel
theorem dX2_sees_78 : decode cX2_sees 78 = .ok (.aload_n 0, 1) := by decide +kernel
theorem dX2_sees_79 : decode cX2_sees 79 = .ok (.getfield 33, 3) := by decide +kernel
theorem dX2_sees_82 : decode cX2_sees 82 = .ok (.bipush 12, 2) := by decide +kernel
theorem dX2_sees_84 : decode cX2_sees 84 = .ok (.iload 8, 2) := by decide +kernel
theorem dX2_sees_86 : decode cX2_sees 86 = .ok (.imul, 1) := by decide +kernel
theorem dX2_sees_87 : decode cX2_sees 87 = .ok (.iload 7, 2) := by decide +kernel
theorem dX2_sees_89 : decode cX2_sees 89 = .ok (.iadd, 1) := by decide +kernel
theorem dX2_sees_90 : decode cX2_sees 90 = .ok (.iaload, 1) := by decide +kernel
theorem dX2_sees_91 : decode cX2_sees 91 = .ok (.iconst 1, 1) := by decide +kernel
theorem dX2_sees_92 : decode cX2_sees 92 = .ok (.if_icmp .ne 5, 3) := by decide +kernel
theorem dX2_sees_95 : decode cX2_sees 95 = .ok (.iconst 0, 1) := by decide +kernel
theorem dX2_sees_96 : decode cX2_sees 96 = .ok (.ireturn, 1) := by decide +kernel
theorem dX2_sees_97 : decode cX2_sees 97 = .ok (.iinc 6 1, 3) := by decide +kernel
theorem dX2_sees_100 : decode cX2_sees 100 = .ok (.goto (-62), 3) := by decide +kernel
theorem dX2_sees_103 : decode cX2_sees 103 = .ok (.iconst 1, 1) := by decide +kernel
theorem dX2_sees_104 : decode cX2_sees 104 = .ok (.ireturn, 1) := by decide +kernel
theorem dX2_fewestToPart_0 : decode cX2_fewestToPart 0 = .ok (.aload_n 0, 1) := by decide +kernel
theorem dX2_fewestToPart_1 : decode cX2_fewestToPart 1 = .ok (.getfield 11, 3) := by decide +kernel
theorem dX2_fewestToPart_4 : decode cX2_fewestToPart 4 = .ok (.ldc 50, 2) := by decide +kernel
theorem dX2_fewestToPart_6 : decode cX2_fewestToPart 6 = .ok (.invokestatic 40, 3) := by decide +kernel
theorem dX2_fewestToPart_9 : decode cX2_fewestToPart 9 = .ok (.iconst 1, 1) := by decide +kernel
theorem dX2_fewestToPart_10 : decode cX2_fewestToPart 10 = .ok (.istore_n 1, 1) := by decide +kernel
theorem dX2_fewestToPart_11 : decode cX2_fewestToPart 11 = .ok (.iconst 0, 1) := by decide +kernel
theorem dX2_fewestToPart_12 : decode cX2_fewestToPart 12 = .ok (.istore_n 2, 1) := by decide +kernel
theorem dX2_fewestToPart_13 : decode cX2_fewestToPart 13 = .ok (.iload_n 2, 1) := by decide +kernel
theorem dX2_fewestToPart_14 : decode cX2_fewestToPart 14 = .ok (.sipush 144, 3) := by decide +kernel
theorem dX2_fewestToPart_17 : decode cX2_fewestToPart 17 = .ok (.if_icmp .ge 74, 3) := by decide +kernel
theorem dX2_fewestToPart_20 : decode cX2_fewestToPart 20 = .ok (.iload_n 1, 1) := by decide +kernel
theorem dX2_fewestToPart_21 : decode cX2_fewestToPart 21 = .ok (.ifCond .eq 70, 3) := by decide +kernel
theorem dX2_fewestToPart_24 : decode cX2_fewestToPart 24 = .ok (.iconst 0, 1) := by decide +kernel
theorem dX2_fewestToPart_25 : decode cX2_fewestToPart 25 = .ok (.istore_n 1, 1) := by decide +kernel
theorem dX2_fewestToPart_26 : decode cX2_fewestToPart 26 = .ok (.iconst 0, 1) := by decide +kernel
theorem dX2_fewestToPart_27 : decode cX2_fewestToPart 27 = .ok (.istore_n 3, 1) := by decide +kernel
theorem dX2_fewestToPart_28 : decode cX2_fewestToPart 28 = .ok (.iload_n 3, 1) := by decide +kernel
theorem dX2_fewestToPart_29 : decode cX2_fewestToPart 29 = .ok (.sipush 144, 3) := by decide +kernel
theorem dX2_fewestToPart_32 : decode cX2_fewestToPart 32 = .ok (.if_icmp .ge 53, 3) := by decide +kernel
theorem dX2_fewestToPart_35 : decode cX2_fewestToPart 35 = .ok (.aload_n 0, 1) := by decide +kernel
theorem dX2_fewestToPart_36 : decode cX2_fewestToPart 36 = .ok (.iload_n 3, 1) := by decide +kernel
theorem dX2_fewestToPart_37 : decode cX2_fewestToPart 37 = .ok (.invokevirtual 82, 3) := by decide +kernel
theorem dX2_fewestToPart_40 : decode cX2_fewestToPart 40 = .ok (.aload_n 0, 1) := by decide +kernel
theorem dX2_fewestToPart_41 : decode cX2_fewestToPart 41 = .ok (.getfield 33, 3) := by decide +kernel
theorem dX2_fewestToPart_44 : decode cX2_fewestToPart 44 = .ok (.iload_n 3, 1) := by decide +kernel
theorem dX2_fewestToPart_45 : decode cX2_fewestToPart 45 = .ok (.iaload, 1) := by decide +kernel
theorem dX2_fewestToPart_46 : decode cX2_fewestToPart 46 = .ok (.iconst 1, 1) := by decide +kernel
theorem dX2_fewestToPart_47 : decode cX2_fewestToPart 47 = .ok (.if_icmp .ne 7, 3) := by decide +kernel
theorem dX2_fewestToPart_50 : decode cX2_fewestToPart 50 = .ok (.iconst 0, 1) := by decide +kernel
theorem dX2_fewestToPart_51 : decode cX2_fewestToPart 51 = .ok (.goto 4, 3) := by decide +kernel
theorem dX2_fewestToPart_54 : decode cX2_fewestToPart 54 = .ok (.iconst 1, 1) := by decide +kernel
theorem dX2_fewestToPart_55 : decode cX2_fewestToPart 55 = .ok (.iadd, 1) := by decide +kernel
theorem dX2_fewestToPart_56 : decode cX2_fewestToPart 56 = .ok (.istore 4, 2) := by decide +kernel
theorem dX2_fewestToPart_58 : decode cX2_fewestToPart 58 = .ok (.iload 4, 2) := by decide +kernel
theorem dX2_fewestToPart_60 : decode cX2_fewestToPart 60 = .ok (.aload_n 0, 1) := by decide +kernel
theorem dX2_fewestToPart_61 : decode cX2_fewestToPart 61 = .ok (.getfield 11, 3) := by decide +kernel
theorem dX2_fewestToPart_64 : decode cX2_fewestToPart 64 = .ok (.iload_n 3, 1) := by decide +kernel
theorem dX2_fewestToPart_65 : decode cX2_fewestToPart 65 = .ok (.iaload, 1) := by decide +kernel
theorem dX2_fewestToPart_66 : decode cX2_fewestToPart 66 = .ok (.if_icmp .ge 13, 3) := by decide +kernel
theorem dX2_fewestToPart_69 : decode cX2_fewestToPart 69 = .ok (.aload_n 0, 1) := by decide +kernel
theorem dX2_fewestToPart_70 : decode cX2_fewestToPart 70 = .ok (.getfield 11, 3) := by decide +kernel
theorem dX2_fewestToPart_73 : decode cX2_fewestToPart 73 = .ok (.iload_n 3, 1) := by decide +kernel
theorem dX2_fewestToPart_74 : decode cX2_fewestToPart 74 = .ok (.iload 4, 2) := by decide +kernel
theorem dX2_fewestToPart_76 : decode cX2_fewestToPart 76 = .ok (.iastore, 1) := by decide +kernel
theorem dX2_fewestToPart_77 : decode cX2_fewestToPart 77 = .ok (.iconst 1, 1) := by decide +kernel
theorem dX2_fewestToPart_78 : decode cX2_fewestToPart 78 = .ok (.istore_n 1, 1) := by decide +kernel
theorem dX2_fewestToPart_79 : decode cX2_fewestToPart 79 = .ok (.iinc 3 1, 3) := by decide +kernel
theorem dX2_fewestToPart_82 : decode cX2_fewestToPart 82 = .ok (.goto (-54), 3) := by decide +kernel
theorem dX2_fewestToPart_85 : decode cX2_fewestToPart 85 = .ok (.iinc 2 1, 3) := by decide +kernel
theorem dX2_fewestToPart_88 : decode cX2_fewestToPart 88 = .ok (.goto (-75), 3) := by decide +kernel
theorem dX2_fewestToPart_91 : decode cX2_fewestToPart 91 = .ok (.bipush 12, 2) := by decide +kernel
theorem dX2_fewestToPart_93 : decode cX2_fewestToPart 93 = .ok (.istore_n 2, 1) := by decide +kernel
theorem dX2_fewestToPart_94 : decode cX2_fewestToPart 94 = .ok (.iconst 0, 1) := by decide +kernel
theorem dX2_fewestToPart_95 : decode cX2_fewestToPart 95 = .ok (.istore_n 3, 1) := by decide +kernel
theorem dX2_fewestToPart_96 : decode cX2_fewestToPart 96 = .ok (.iload_n 3, 1) := by decide +kernel
theorem dX2_fewestToPart_97 : decode cX2_fewestToPart 97 = .ok (.bipush 12, 2) := by decide +kernel
theorem dX2_fewestToPart_99 : decode cX2_fewestToPart 99 = .ok (.if_icmp .ge 28, 3) := by decide +kernel
theorem dX2_fewestToPart_102 : decode cX2_fewestToPart 102 = .ok (.iload_n 2, 1) := by decide +kernel
theorem dX2_fewestToPart_103 : decode cX2_fewestToPart 103 = .ok (.aload_n 0, 1) := by decide +kernel
theorem dX2_fewestToPart_104 : decode cX2_fewestToPart 104 = .ok (.getfield 11, 3) := by decide +kernel
theorem dX2_fewestToPart_107 : decode cX2_fewestToPart 107 = .ok (.bipush 12, 2) := by decide +kernel
theorem dX2_fewestToPart_109 : decode cX2_fewestToPart 109 = .ok (.iload_n 3, 1) := by decide +kernel
theorem dX2_fewestToPart_110 : decode cX2_fewestToPart 110 = .ok (.imul, 1) := by decide +kernel
theorem dX2_fewestToPart_111 : decode cX2_fewestToPart 111 = .ok (.bipush 12, 2) := by decide +kernel
theorem dX2_fewestToPart_113 : decode cX2_fewestToPart 113 = .ok (.iadd, 1) := by decide +kernel
theorem dX2_fewestToPart_114 : decode cX2_fewestToPart 114 = .ok (.iconst 1, 1) := by decide +kernel
theorem dX2_fewestToPart_115 : decode cX2_fewestToPart 115 = .ok (.isub, 1) := by decide +kernel
theorem dX2_fewestToPart_116 : decode cX2_fewestToPart 116 = .ok (.iaload, 1) := by decide +kernel
theorem dX2_fewestToPart_117 : decode cX2_fewestToPart 117 = .ok (.invokestatic 57, 3) := by decide +kernel
theorem dX2_fewestToPart_120 : decode cX2_fewestToPart 120 = .ok (.istore_n 2, 1) := by decide +kernel
theorem dX2_fewestToPart_121 : decode cX2_fewestToPart 121 = .ok (.iinc 3 1, 3) := by decide +kernel
theorem dX2_fewestToPart_124 : decode cX2_fewestToPart 124 = .ok (.goto (-28), 3) := by decide +kernel
theorem dX2_fewestToPart_127 : decode cX2_fewestToPart 127 = .ok (.iload_n 2, 1) := by decide +kernel
theorem dX2_fewestToPart_128 : decode cX2_fewestToPart 128 = .ok (.ireturn, 1) := by decide +kernel
theorem dX2_flocks_0 : decode cX2_flocks 0 = .ok (.aload_n 0, 1) := by decide +kernel
theorem dX2_flocks_1 : decode cX2_flocks 1 = .ok (.getfield 11, 3) := by decide +kernel
theorem dX2_flocks_4 : decode cX2_flocks 4 = .ok (.iconst (-1), 1) := by decide +kernel
theorem dX2_flocks_5 : decode cX2_flocks 5 = .ok (.invokestatic 40, 3) := by decide +kernel
theorem dX2_flocks_8 : decode cX2_flocks 8 = .ok (.iconst 0, 1) := by decide +kernel
theorem dX2_flocks_9 : decode cX2_flocks 9 = .ok (.istore_n 2, 1) := by decide +kernel
theorem dX2_flocks_10 : decode cX2_flocks 10 = .ok (.iconst 0, 1) := by decide +kernel
theorem dX2_flocks_11 : decode cX2_flocks 11 = .ok (.istore_n 3, 1) := by decide +kernel
theorem dX2_flocks_12 : decode cX2_flocks 12 = .ok (.iconst 0, 1) := by decide +kernel
theorem dX2_flocks_13 : decode cX2_flocks 13 = .ok (.istore 4, 2) := by decide +kernel
theorem dX2_flocks_15 : decode cX2_flocks 15 = .ok (.iload 4, 2) := by decide +kernel
theorem dX2_flocks_17 : decode cX2_flocks 17 = .ok (.sipush 144, 3) := by decide +kernel
theorem dX2_flocks_20 : decode cX2_flocks 20 = .ok (.if_icmp .ge 43, 3) := by decide +kernel
theorem dX2_flocks_23 : decode cX2_flocks 23 = .ok (.aload_n 0, 1) := by decide +kernel
theorem dX2_flocks_24 : decode cX2_flocks 24 = .ok (.iload 4, 2) := by decide +kernel
theorem dX2_flocks_26 : decode cX2_flocks 26 = .ok (.invokevirtual 85, 3) := by decide +kernel
theorem dX2_flocks_29 : decode cX2_flocks 29 = .ok (.ifCond .eq 28, 3) := by decide +kernel
theorem dX2_flocks_32 : decode cX2_flocks 32 = .ok (.aload_n 0, 1) := by decide +kernel
theorem dX2_flocks_33 : decode cX2_flocks 33 = .ok (.getfield 11, 3) := by decide +kernel
theorem dX2_flocks_36 : decode cX2_flocks 36 = .ok (.iload 4, 2) := by decide +kernel
theorem dX2_flocks_38 : decode cX2_flocks 38 = .ok (.iaload, 1) := by decide +kernel
theorem dX2_flocks_39 : decode cX2_flocks 39 = .ok (.iconst (-1), 1) := by decide +kernel
theorem dX2_flocks_40 : decode cX2_flocks 40 = .ok (.if_icmp .ne 17, 3) := by decide +kernel
theorem dX2_flocks_43 : decode cX2_flocks 43 = .ok (.iinc 2 1, 3) := by decide +kernel
theorem dX2_flocks_46 : decode cX2_flocks 46 = .ok (.iload_n 3, 1) := by decide +kernel
theorem dX2_flocks_47 : decode cX2_flocks 47 = .ok (.aload_n 0, 1) := by decide +kernel
theorem dX2_flocks_48 : decode cX2_flocks 48 = .ok (.iload 4, 2) := by decide +kernel
theorem dX2_flocks_50 : decode cX2_flocks 50 = .ok (.invokevirtual 88, 3) := by decide +kernel
theorem dX2_flocks_53 : decode cX2_flocks 53 = .ok (.invokestatic 76, 3) := by decide +kernel
theorem dX2_flocks_56 : decode cX2_flocks 56 = .ok (.istore_n 3, 1) := by decide +kernel
theorem dX2_flocks_57 : decode cX2_flocks 57 = .ok (.iinc 4 1, 3) := by decide +kernel
theorem dX2_flocks_60 : decode cX2_flocks 60 = .ok (.goto (-45), 3) := by decide +kernel
theorem dX2_flocks_63 : decode cX2_flocks 63 = .ok (.iload_n 1, 1) := by decide +kernel
theorem dX2_flocks_64 : decode cX2_flocks 64 = .ok (.ifCond .eq 7, 3) := by decide +kernel
theorem dX2_flocks_67 : decode cX2_flocks 67 = .ok (.iload_n 3, 1) := by decide +kernel
theorem dX2_flocks_68 : decode cX2_flocks 68 = .ok (.goto 4, 3) := by decide +kernel
theorem dX2_flocks_71 : decode cX2_flocks 71 = .ok (.iload_n 2, 1) := by decide +kernel
theorem dX2_flocks_72 : decode cX2_flocks 72 = .ok (.ireturn, 1) := by decide +kernel
theorem dX2_withOneBeside_0 : decode cX2_withOneBeside 0 = .ok (.iconst 0, 1) := by decide +kernel
theorem dX2_withOneBeside_1 : decode cX2_withOneBeside 1 = .ok (.istore_n 1, 1) := by decide +kernel
theorem dX2_withOneBeside_2 : decode cX2_withOneBeside 2 = .ok (.iconst 0, 1) := by decide +kernel
theorem dX2_withOneBeside_3 : decode cX2_withOneBeside 3 = .ok (.istore_n 2, 1) := by decide +kernel
theorem dX2_withOneBeside_4 : decode cX2_withOneBeside 4 = .ok (.iload_n 2, 1) := by decide +kernel
theorem dX2_withOneBeside_5 : decode cX2_withOneBeside 5 = .ok (.sipush 144, 3) := by decide +kernel
theorem dX2_withOneBeside_8 : decode cX2_withOneBeside 8 = .ok (.if_icmp .ge 61, 3) := by decide +kernel
theorem dX2_withOneBeside_11 : decode cX2_withOneBeside 11 = .ok (.iconst 0, 1) := by decide +kernel
theorem dX2_withOneBeside_12 : decode cX2_withOneBeside 12 = .ok (.istore_n 3, 1) := by decide +kernel
theorem dX2_withOneBeside_13 : decode cX2_withOneBeside 13 = .ok (.iconst 0, 1) := by decide +kernel
theorem dX2_withOneBeside_14 : decode cX2_withOneBeside 14 = .ok (.istore 4, 2) := by decide +kernel
theorem dX2_withOneBeside_16 : decode cX2_withOneBeside 16 = .ok (.iload 4, 2) := by decide +kernel
theorem dX2_withOneBeside_18 : decode cX2_withOneBeside 18 = .ok (.iconst 4, 1) := by decide +kernel
theorem dX2_withOneBeside_19 : decode cX2_withOneBeside 19 = .ok (.if_icmp .ge 28, 3) := by decide +kernel
theorem dX2_withOneBeside_22 : decode cX2_withOneBeside 22 = .ok (.iload_n 3, 1) := by decide +kernel
theorem dX2_withOneBeside_23 : decode cX2_withOneBeside 23 = .ok (.aload_n 0, 1) := by decide +kernel
theorem dX2_withOneBeside_24 : decode cX2_withOneBeside 24 = .ok (.iload_n 2, 1) := by decide +kernel
theorem dX2_withOneBeside_25 : decode cX2_withOneBeside 25 = .ok (.iload 4, 2) := by decide +kernel
theorem dX2_withOneBeside_27 : decode cX2_withOneBeside 27 = .ok (.invokevirtual 91, 3) := by decide +kernel
theorem dX2_withOneBeside_30 : decode cX2_withOneBeside 30 = .ok (.iconst (-1), 1) := by decide +kernel
theorem dX2_withOneBeside_31 : decode cX2_withOneBeside 31 = .ok (.if_icmp .ne 7, 3) := by decide +kernel
theorem dX2_withOneBeside_34 : decode cX2_withOneBeside 34 = .ok (.iconst 0, 1) := by decide +kernel
theorem dX2_withOneBeside_35 : decode cX2_withOneBeside 35 = .ok (.goto 4, 3) := by decide +kernel
theorem dX2_withOneBeside_38 : decode cX2_withOneBeside 38 = .ok (.iconst 1, 1) := by decide +kernel
theorem dX2_withOneBeside_39 : decode cX2_withOneBeside 39 = .ok (.iadd, 1) := by decide +kernel
theorem dX2_withOneBeside_40 : decode cX2_withOneBeside 40 = .ok (.istore_n 3, 1) := by decide +kernel
theorem dX2_withOneBeside_41 : decode cX2_withOneBeside 41 = .ok (.iinc 4 1, 3) := by decide +kernel
theorem dX2_withOneBeside_44 : decode cX2_withOneBeside 44 = .ok (.goto (-28), 3) := by decide +kernel
theorem dX2_withOneBeside_47 : decode cX2_withOneBeside 47 = .ok (.aload_n 0, 1) := by decide +kernel
theorem dX2_withOneBeside_48 : decode cX2_withOneBeside 48 = .ok (.iload_n 2, 1) := by decide +kernel
theorem dX2_withOneBeside_49 : decode cX2_withOneBeside 49 = .ok (.invokevirtual 85, 3) := by decide +kernel
theorem dX2_withOneBeside_52 : decode cX2_withOneBeside 52 = .ok (.ifCond .eq 11, 3) := by decide +kernel
theorem dX2_withOneBeside_55 : decode cX2_withOneBeside 55 = .ok (.iload_n 3, 1) := by decide +kernel
theorem dX2_withOneBeside_56 : decode cX2_withOneBeside 56 = .ok (.iconst 1, 1) := by decide +kernel
theorem dX2_withOneBeside_57 : decode cX2_withOneBeside 57 = .ok (.if_icmp .ne 6, 3) := by decide +kernel
theorem dX2_withOneBeside_60 : decode cX2_withOneBeside 60 = .ok (.iinc 1 1, 3) := by decide +kernel
theorem dX2_withOneBeside_63 : decode cX2_withOneBeside 63 = .ok (.iinc 2 1, 3) := by decide +kernel
theorem dX2_withOneBeside_66 : decode cX2_withOneBeside 66 = .ok (.goto (-62), 3) := by decide +kernel
theorem dX2_withOneBeside_69 : decode cX2_withOneBeside 69 = .ok (.iload_n 1, 1) := by decide +kernel
theorem dX2_withOneBeside_70 : decode cX2_withOneBeside 70 = .ok (.ireturn, 1) := by decide +kernel
theorem dX2_onward_0 : decode cX2_onward 0 = .ok (.iload_n 1, 1) := by decide +kernel
theorem dX2_onward_1 : decode cX2_onward 1 = .ok (.bipush 12, 2) := by decide +kernel
theorem dX2_onward_3 : decode cX2_onward 3 = .ok (.irem, 1) := by decide +kernel
theorem dX2_onward_4 : decode cX2_onward 4 = .ok (.getstatic 94, 3) := by decide +kernel
theorem dX2_onward_7 : decode cX2_onward 7 = .ok (.iload_n 2, 1) := by decide +kernel
theorem dX2_onward_8 : decode cX2_onward 8 = .ok (.iconst 3, 1) := by decide +kernel
theorem dX2_onward_9 : decode cX2_onward 9 = .ok (.iand, 1) := by decide +kernel
theorem dX2_onward_10 : decode cX2_onward 10 = .ok (.iaload, 1) := by decide +kernel
theorem dX2_onward_11 : decode cX2_onward 11 = .ok (.iadd, 1) := by decide +kernel
theorem dX2_onward_12 : decode cX2_onward 12 = .ok (.istore_n 3, 1) := by decide +kernel
theorem dX2_onward_13 : decode cX2_onward 13 = .ok (.iload_n 1, 1) := by decide +kernel
theorem dX2_onward_14 : decode cX2_onward 14 = .ok (.bipush 12, 2) := by decide +kernel
theorem dX2_onward_16 : decode cX2_onward 16 = .ok (.idiv, 1) := by decide +kernel
theorem dX2_onward_17 : decode cX2_onward 17 = .ok (.getstatic 97, 3) := by decide +kernel
theorem dX2_onward_20 : decode cX2_onward 20 = .ok (.iload_n 2, 1) := by decide +kernel
theorem dX2_onward_21 : decode cX2_onward 21 = .ok (.iconst 3, 1) := by decide +kernel
theorem dX2_onward_22 : decode cX2_onward 22 = .ok (.iand, 1) := by decide +kernel
theorem dX2_onward_23 : decode cX2_onward 23 = .ok (.iaload, 1) := by decide +kernel
theorem dX2_onward_24 : decode cX2_onward 24 = .ok (.iadd, 1) := by decide +kernel
theorem dX2_onward_25 : decode cX2_onward 25 = .ok (.istore 4, 2) := by decide +kernel
theorem dX2_onward_27 : decode cX2_onward 27 = .ok (.iload_n 3, 1) := by decide +kernel
theorem dX2_onward_28 : decode cX2_onward 28 = .ok (.invokestatic 100, 3) := by decide +kernel
theorem dX2_onward_31 : decode cX2_onward 31 = .ok (.ifCond .eq 11, 3) := by decide +kernel
theorem dX2_onward_34 : decode cX2_onward 34 = .ok (.iload 4, 2) := by decide +kernel
theorem dX2_onward_36 : decode cX2_onward 36 = .ok (.invokestatic 100, 3) := by decide +kernel
theorem dX2_onward_39 : decode cX2_onward 39 = .ok (.ifCond .ne 5, 3) := by decide +kernel
theorem dX2_onward_42 : decode cX2_onward 42 = .ok (.iconst (-1), 1) := by decide +kernel
theorem dX2_onward_43 : decode cX2_onward 43 = .ok (.ireturn, 1) := by decide +kernel
theorem dX2_onward_44 : decode cX2_onward 44 = .ok (.bipush 12, 2) := by decide +kernel
theorem dX2_onward_46 : decode cX2_onward 46 = .ok (.iload 4, 2) := by decide +kernel
theorem dX2_onward_48 : decode cX2_onward 48 = .ok (.imul, 1) := by decide +kernel
theorem dX2_onward_49 : decode cX2_onward 49 = .ok (.iload_n 3, 1) := by decide +kernel
theorem dX2_onward_50 : decode cX2_onward 50 = .ok (.iadd, 1) := by decide +kernel
theorem dX2_onward_51 : decode cX2_onward 51 = .ok (.istore 5, 2) := by decide +kernel
theorem dX2_onward_53 : decode cX2_onward 53 = .ok (.aload_n 0, 1) := by decide +kernel
theorem dX2_onward_54 : decode cX2_onward 54 = .ok (.getfield 33, 3) := by decide +kernel
theorem dX2_onward_57 : decode cX2_onward 57 = .ok (.iload 5, 2) := by decide +kernel
theorem dX2_onward_59 : decode cX2_onward 59 = .ok (.iaload, 1) := by decide +kernel
theorem dX2_onward_60 : decode cX2_onward 60 = .ok (.iconst 1, 1) := by decide +kernel
theorem dX2_onward_61 : decode cX2_onward 61 = .ok (.if_icmp .ne 7, 3) := by decide +kernel
theorem dX2_onward_64 : decode cX2_onward 64 = .ok (.iconst (-1), 1) := by decide +kernel
theorem dX2_onward_65 : decode cX2_onward 65 = .ok (.goto 5, 3) := by decide +kernel
theorem dX2_onward_68 : decode cX2_onward 68 = .ok (.iload 5, 2) := by decide +kernel
theorem dX2_onward_70 : decode cX2_onward 70 = .ok (.ireturn, 1) := by decide +kernel
theorem dX2_neighbour_0 : decode cX2_neighbour 0 = .ok (.iload_n 1, 1) := by decide +kernel
theorem dX2_neighbour_1 : decode cX2_neighbour 1 = .ok (.sipush 144, 3) := by decide +kernel
theorem dX2_neighbour_4 : decode cX2_neighbour 4 = .ok (.irem, 1) := by decide +kernel
theorem dX2_neighbour_5 : decode cX2_neighbour 5 = .ok (.istore_n 3, 1) := by decide +kernel
theorem dX2_neighbour_6 : decode cX2_neighbour 6 = .ok (.iload_n 1, 1) := by decide +kernel
theorem dX2_neighbour_7 : decode cX2_neighbour 7 = .ok (.sipush 144, 3) := by decide +kernel
theorem dX2_neighbour_10 : decode cX2_neighbour 10 = .ok (.idiv, 1) := by decide +kernel
theorem dX2_neighbour_11 : decode cX2_neighbour 11 = .ok (.istore 4, 2) := by decide +kernel
theorem dX2_neighbour_13 : decode cX2_neighbour 13 = .ok (.iload_n 2, 1) := by decide +kernel
theorem dX2_neighbour_14 : decode cX2_neighbour 14 = .ok (.ifCond .ne 32, 3) := by decide +kernel
theorem dX2_neighbour_17 : decode cX2_neighbour 17 = .ok (.aload_n 0, 1) := by decide +kernel
theorem dX2_neighbour_18 : decode cX2_neighbour 18 = .ok (.iload_n 3, 1) := by decide +kernel
theorem dX2_neighbour_19 : decode cX2_neighbour 19 = .ok (.iload 4, 2) := by decide +kernel
theorem dX2_neighbour_21 : decode cX2_neighbour 21 = .ok (.invokevirtual 91, 3) := by decide +kernel
theorem dX2_neighbour_24 : decode cX2_neighbour 24 = .ok (.istore 5, 2) := by decide +kernel
theorem dX2_neighbour_26 : decode cX2_neighbour 26 = .ok (.iload 5, 2) := by decide +kernel
theorem dX2_neighbour_28 : decode cX2_neighbour 28 = .ok (.iconst (-1), 1) := by decide +kernel
theorem dX2_neighbour_29 : decode cX2_neighbour 29 = .ok (.if_icmp .ne 7, 3) := by decide +kernel
theorem dX2_neighbour_32 : decode cX2_neighbour 32 = .ok (.iconst (-1), 1) := by decide +kernel
theorem dX2_neighbour_33 : decode cX2_neighbour 33 = .ok (.goto 12, 3) := by decide +kernel
theorem dX2_neighbour_36 : decode cX2_neighbour 36 = .ok (.sipush 144, 3) := by decide +kernel
theorem dX2_neighbour_39 : decode cX2_neighbour 39 = .ok (.iload 4, 2) := by decide +kernel
theorem dX2_neighbour_41 : decode cX2_neighbour 41 = .ok (.imul, 1) := by decide +kernel
theorem dX2_neighbour_42 : decode cX2_neighbour 42 = .ok (.iload 5, 2) := by decide +kernel
theorem dX2_neighbour_44 : decode cX2_neighbour 44 = .ok (.iadd, 1) := by decide +kernel
theorem dX2_neighbour_45 : decode cX2_neighbour 45 = .ok (.ireturn, 1) := by decide +kernel
theorem dX2_neighbour_46 : decode cX2_neighbour 46 = .ok (.sipush 144, 3) := by decide +kernel
theorem dX2_neighbour_49 : decode cX2_neighbour 49 = .ok (.iload 4, 2) := by decide +kernel
theorem dX2_neighbour_51 : decode cX2_neighbour 51 = .ok (.iconst 2, 1) := by decide +kernel
theorem dX2_neighbour_52 : decode cX2_neighbour 52 = .ok (.iload_n 2, 1) := by decide +kernel
theorem dX2_neighbour_53 : decode cX2_neighbour 53 = .ok (.imul, 1) := by decide +kernel
theorem dX2_neighbour_54 : decode cX2_neighbour 54 = .ok (.iadd, 1) := by decide +kernel
theorem dX2_neighbour_55 : decode cX2_neighbour 55 = .ok (.iconst 1, 1) := by decide +kernel
theorem dX2_neighbour_56 : decode cX2_neighbour 56 = .ok (.isub, 1) := by decide +kernel
theorem dX2_neighbour_57 : decode cX2_neighbour 57 = .ok (.iconst 3, 1) := by decide +kernel
theorem dX2_neighbour_58 : decode cX2_neighbour 58 = .ok (.iand, 1) := by decide +kernel
theorem dX2_neighbour_59 : decode cX2_neighbour 59 = .ok (.imul, 1) := by decide +kernel
theorem dX2_neighbour_60 : decode cX2_neighbour 60 = .ok (.iload_n 3, 1) := by decide +kernel
theorem dX2_neighbour_61 : decode cX2_neighbour 61 = .ok (.iadd, 1) := by decide +kernel
theorem dX2_neighbour_62 : decode cX2_neighbour 62 = .ok (.ireturn, 1) := by decide +kernel
theorem dX2_goStraight_0 : decode cX2_goStraight 0 = .ok (.iconst 0, 1) := by decide +kernel
theorem dX2_goStraight_1 : decode cX2_goStraight 1 = .ok (.istore_n 1, 1) := by decide +kernel
theorem dX2_goStraight_2 : decode cX2_goStraight 2 = .ok (.iload_n 1, 1) := by decide +kernel
theorem dX2_goStraight_3 : decode cX2_goStraight 3 = .ok (.iconst 4, 1) := by decide +kernel
theorem dX2_goStraight_4 : decode cX2_goStraight 4 = .ok (.if_icmp .ge 96, 3) := by decide +kernel
theorem dX2_goStraight_7 : decode cX2_goStraight 7 = .ok (.iconst 0, 1) := by decide +kernel
theorem dX2_goStraight_8 : decode cX2_goStraight 8 = .ok (.istore_n 2, 1) := by decide +kernel
theorem dX2_goStraight_9 : decode cX2_goStraight 9 = .ok (.iload_n 2, 1) := by decide +kernel
theorem dX2_goStraight_10 : decode cX2_goStraight 10 = .ok (.sipush 144, 3) := by decide +kernel
theorem dX2_goStraight_13 : decode cX2_goStraight 13 = .ok (.if_icmp .ge 81, 3) := by decide +kernel
theorem dX2_goStraight_16 : decode cX2_goStraight 16 = .ok (.iload_n 1, 1) := by decide +kernel
theorem dX2_goStraight_17 : decode cX2_goStraight 17 = .ok (.iconst 2, 1) := by decide +kernel
theorem dX2_goStraight_18 : decode cX2_goStraight 18 = .ok (.if_icmp .ge 7, 3) := by decide +kernel
theorem dX2_goStraight_21 : decode cX2_goStraight 21 = .ok (.iload_n 2, 1) := by decide +kernel
theorem dX2_goStraight_22 : decode cX2_goStraight 22 = .ok (.goto 8, 3) := by decide +kernel
theorem dX2_goStraight_25 : decode cX2_goStraight 25 = .ok (.sipush 143, 3) := by decide +kernel
theorem dX2_goStraight_28 : decode cX2_goStraight 28 = .ok (.iload_n 2, 1) := by decide +kernel
theorem dX2_goStraight_29 : decode cX2_goStraight 29 = .ok (.isub, 1) := by decide +kernel
theorem dX2_goStraight_30 : decode cX2_goStraight 30 = .ok (.istore_n 3, 1) := by decide +kernel
theorem dX2_goStraight_31 : decode cX2_goStraight 31 = .ok (.aload_n 0, 1) := by decide +kernel
theorem dX2_goStraight_32 : decode cX2_goStraight 32 = .ok (.iload_n 3, 1) := by decide +kernel
theorem dX2_goStraight_33 : decode cX2_goStraight 33 = .ok (.iload_n 1, 1) := by decide +kernel
theorem dX2_goStraight_34 : decode cX2_goStraight 34 = .ok (.invokevirtual 91, 3) := by decide +kernel
theorem dX2_goStraight_37 : decode cX2_goStraight 37 = .ok (.istore 4, 2) := by decide +kernel
theorem dX2_goStraight_39 : decode cX2_goStraight 39 = .ok (.iload 4, 2) := by decide +kernel
theorem dX2_goStraight_41 : decode cX2_goStraight 41 = .ok (.iconst (-1), 1) := by decide +kernel
theorem dX2_goStraight_42 : decode cX2_goStraight 42 = .ok (.if_icmp .eq 46, 3) := by decide +kernel
theorem dX2_goStraight_45 : decode cX2_goStraight 45 = .ok (.aload_n 0, 1) := by decide +kernel
theorem dX2_goStraight_46 : decode cX2_goStraight 46 = .ok (.getfield 11, 3) := by decide +kernel
theorem dX2_goStraight_49 : decode cX2_goStraight 49 = .ok (.sipush 144, 3) := by decide +kernel
theorem dX2_goStraight_52 : decode cX2_goStraight 52 = .ok (.iload_n 1, 1) := by decide +kernel
theorem dX2_goStraight_53 : decode cX2_goStraight 53 = .ok (.imul, 1) := by decide +kernel
theorem dX2_goStraight_54 : decode cX2_goStraight 54 = .ok (.iload 4, 2) := by decide +kernel
theorem dX2_goStraight_56 : decode cX2_goStraight 56 = .ok (.iadd, 1) := by decide +kernel
theorem dX2_goStraight_57 : decode cX2_goStraight 57 = .ok (.aload_n 0, 1) := by decide +kernel
theorem dX2_goStraight_58 : decode cX2_goStraight 58 = .ok (.getfield 11, 3) := by decide +kernel
theorem dX2_goStraight_61 : decode cX2_goStraight 61 = .ok (.sipush 144, 3) := by decide +kernel
theorem dX2_goStraight_64 : decode cX2_goStraight 64 = .ok (.iload_n 1, 1) := by decide +kernel
theorem dX2_goStraight_65 : decode cX2_goStraight 65 = .ok (.imul, 1) := by decide +kernel
theorem dX2_goStraight_66 : decode cX2_goStraight 66 = .ok (.iload 4, 2) := by decide +kernel
theorem dX2_goStraight_68 : decode cX2_goStraight 68 = .ok (.iadd, 1) := by decide +kernel
theorem dX2_goStraight_69 : decode cX2_goStraight 69 = .ok (.iaload, 1) := by decide +kernel
theorem dX2_goStraight_70 : decode cX2_goStraight 70 = .ok (.aload_n 0, 1) := by decide +kernel
theorem dX2_goStraight_71 : decode cX2_goStraight 71 = .ok (.getfield 11, 3) := by decide +kernel
theorem dX2_goStraight_74 : decode cX2_goStraight 74 = .ok (.sipush 144, 3) := by decide +kernel
theorem dX2_goStraight_77 : decode cX2_goStraight 77 = .ok (.iload_n 1, 1) := by decide +kernel
theorem dX2_goStraight_78 : decode cX2_goStraight 78 = .ok (.imul, 1) := by decide +kernel
theorem dX2_goStraight_79 : decode cX2_goStraight 79 = .ok (.iload_n 3, 1) := by decide +kernel
theorem dX2_goStraight_80 : decode cX2_goStraight 80 = .ok (.iadd, 1) := by decide +kernel
theorem dX2_goStraight_81 : decode cX2_goStraight 81 = .ok (.iaload, 1) := by decide +kernel
theorem dX2_goStraight_82 : decode cX2_goStraight 82 = .ok (.iconst 1, 1) := by decide +kernel
theorem dX2_goStraight_83 : decode cX2_goStraight 83 = .ok (.iadd, 1) := by decide +kernel
theorem dX2_goStraight_84 : decode cX2_goStraight 84 = .ok (.invokestatic 57, 3) := by decide +kernel
theorem dX2_goStraight_87 : decode cX2_goStraight 87 = .ok (.iastore, 1) := by decide +kernel
theorem dX2_goStraight_88 : decode cX2_goStraight 88 = .ok (.iinc 2 1, 3) := by decide +kernel
theorem dX2_goStraight_91 : decode cX2_goStraight 91 = .ok (.goto (-82), 3) := by decide +kernel
theorem dX2_goStraight_94 : decode cX2_goStraight 94 = .ok (.iinc 1 1, 3) := by decide +kernel
theorem dX2_goStraight_97 : decode cX2_goStraight 97 = .ok (.goto (-95), 3) := by decide +kernel
theorem dX2_goStraight_100 : decode cX2_goStraight 100 = .ok (.return_, 1) := by decide +kernel
theorem dX2_turnOnce_0 : decode cX2_turnOnce 0 = .ok (.iconst 0, 1) := by decide +kernel
theorem dX2_turnOnce_1 : decode cX2_turnOnce 1 = .ok (.istore_n 1, 1) := by decide +kernel
theorem dX2_turnOnce_2 : decode cX2_turnOnce 2 = .ok (.iload_n 1, 1) := by decide +kernel
theorem dX2_turnOnce_3 : decode cX2_turnOnce 3 = .ok (.sipush 576, 3) := by decide +kernel
theorem dX2_turnOnce_6 : decode cX2_turnOnce 6 = .ok (.if_icmp .ge 40, 3) := by decide +kernel
theorem dX2_turnOnce_9 : decode cX2_turnOnce 9 = .ok (.aload_n 0, 1) := by decide +kernel
theorem dX2_turnOnce_10 : decode cX2_turnOnce 10 = .ok (.getfield 15, 3) := by decide +kernel
theorem dX2_turnOnce_13 : decode cX2_turnOnce 13 = .ok (.iload_n 1, 1) := by decide +kernel
theorem dX2_turnOnce_14 : decode cX2_turnOnce 14 = .ok (.aload_n 0, 1) := by decide +kernel
theorem dX2_turnOnce_15 : decode cX2_turnOnce 15 = .ok (.getfield 11, 3) := by decide +kernel
theorem dX2_turnOnce_18 : decode cX2_turnOnce 18 = .ok (.aload_n 0, 1) := by decide +kernel
theorem dX2_turnOnce_19 : decode cX2_turnOnce 19 = .ok (.iload_n 1, 1) := by decide +kernel
theorem dX2_turnOnce_20 : decode cX2_turnOnce 20 = .ok (.iconst 1, 1) := by decide +kernel
theorem dX2_turnOnce_21 : decode cX2_turnOnce 21 = .ok (.invokevirtual 46, 3) := by decide +kernel
theorem dX2_turnOnce_24 : decode cX2_turnOnce 24 = .ok (.iaload, 1) := by decide +kernel
theorem dX2_turnOnce_25 : decode cX2_turnOnce 25 = .ok (.aload_n 0, 1) := by decide +kernel
theorem dX2_turnOnce_26 : decode cX2_turnOnce 26 = .ok (.getfield 11, 3) := by decide +kernel
theorem dX2_turnOnce_29 : decode cX2_turnOnce 29 = .ok (.aload_n 0, 1) := by decide +kernel
theorem dX2_turnOnce_30 : decode cX2_turnOnce 30 = .ok (.iload_n 1, 1) := by decide +kernel
theorem dX2_turnOnce_31 : decode cX2_turnOnce 31 = .ok (.iconst 2, 1) := by decide +kernel
theorem dX2_turnOnce_32 : decode cX2_turnOnce 32 = .ok (.invokevirtual 46, 3) := by decide +kernel
theorem dX2_turnOnce_35 : decode cX2_turnOnce 35 = .ok (.iaload, 1) := by decide +kernel
theorem dX2_turnOnce_36 : decode cX2_turnOnce 36 = .ok (.invokestatic 57, 3) := by decide +kernel
theorem dX2_turnOnce_39 : decode cX2_turnOnce 39 = .ok (.iastore, 1) := by decide +kernel
theorem dX2_turnOnce_40 : decode cX2_turnOnce 40 = .ok (.iinc 1 1, 3) := by decide +kernel
theorem dX2_turnOnce_43 : decode cX2_turnOnce 43 = .ok (.goto (-41), 3) := by decide +kernel
theorem dX2_turnOnce_46 : decode cX2_turnOnce 46 = .ok (.aload_n 0, 1) := by decide +kernel
theorem dX2_turnOnce_47 : decode cX2_turnOnce 47 = .ok (.getfield 15, 3) := by decide +kernel
theorem dX2_turnOnce_50 : decode cX2_turnOnce 50 = .ok (.iconst 0, 1) := by decide +kernel
theorem dX2_turnOnce_51 : decode cX2_turnOnce 51 = .ok (.aload_n 0, 1) := by decide +kernel
theorem dX2_turnOnce_52 : decode cX2_turnOnce 52 = .ok (.getfield 11, 3) := by decide +kernel
theorem dX2_turnOnce_55 : decode cX2_turnOnce 55 = .ok (.iconst 0, 1) := by decide +kernel
theorem dX2_turnOnce_56 : decode cX2_turnOnce 56 = .ok (.sipush 576, 3) := by decide +kernel
theorem dX2_turnOnce_59 : decode cX2_turnOnce 59 = .ok (.invokestatic 103, 3) := by decide +kernel
theorem dX2_turnOnce_62 : decode cX2_turnOnce 62 = .ok (.return_, 1) := by decide +kernel
theorem dX2_turnEverywhere_0 : decode cX2_turnEverywhere 0 = .ok (.iconst 0, 1) := by decide +kernel
theorem dX2_turnEverywhere_1 : decode cX2_turnEverywhere 1 = .ok (.istore_n 2, 1) := by decide +kernel
theorem dX2_turnEverywhere_2 : decode cX2_turnEverywhere 2 = .ok (.iload_n 2, 1) := by decide +kernel
theorem dX2_turnEverywhere_3 : decode cX2_turnEverywhere 3 = .ok (.sipush 144, 3) := by decide +kernel
theorem dX2_turnEverywhere_6 : decode cX2_turnEverywhere 6 = .ok (.if_icmp .ge 15, 3) := by decide +kernel
theorem dX2_turnEverywhere_9 : decode cX2_turnEverywhere 9 = .ok (.aload_n 0, 1) := by decide +kernel
theorem dX2_turnEverywhere_10 : decode cX2_turnEverywhere 10 = .ok (.iload_n 2, 1) := by decide +kernel
theorem dX2_turnEverywhere_11 : decode cX2_turnEverywhere 11 = .ok (.iload_n 1, 1) := by decide +kernel
theorem dX2_turnEverywhere_12 : decode cX2_turnEverywhere 12 = .ok (.invokevirtual 109, 3) := by decide +kernel
theorem dX2_turnEverywhere_15 : decode cX2_turnEverywhere 15 = .ok (.iinc 2 1, 3) := by decide +kernel
theorem dX2_turnEverywhere_18 : decode cX2_turnEverywhere 18 = .ok (.goto (-16), 3) := by decide +kernel
theorem dX2_turnEverywhere_21 : decode cX2_turnEverywhere 21 = .ok (.return_, 1) := by decide +kernel
theorem dX2_turnAt_0 : decode cX2_turnAt 0 = .ok (.aload_n 0, 1) := by decide +kernel
theorem dX2_turnAt_1 : decode cX2_turnAt 1 = .ok (.getfield 27, 3) := by decide +kernel
theorem dX2_turnAt_4 : decode cX2_turnAt 4 = .ok (.iconst 0, 1) := by decide +kernel
theorem dX2_turnAt_5 : decode cX2_turnAt 5 = .ok (.invokestatic 40, 3) := by decide +kernel
theorem dX2_turnAt_8 : decode cX2_turnAt 8 = .ok (.aload_n 0, 1) := by decide +kernel
theorem dX2_turnAt_9 : decode cX2_turnAt 9 = .ok (.getfield 30, 3) := by decide +kernel
theorem dX2_turnAt_12 : decode cX2_turnAt 12 = .ok (.iconst 0, 1) := by decide +kernel
theorem dX2_turnAt_13 : decode cX2_turnAt 13 = .ok (.invokestatic 40, 3) := by decide +kernel
theorem dX2_turnAt_16 : decode cX2_turnAt 16 = .ok (.iconst 0, 1) := by decide +kernel
theorem dX2_turnAt_17 : decode cX2_turnAt 17 = .ok (.istore_n 3, 1) := by decide +kernel
theorem dX2_turnAt_18 : decode cX2_turnAt 18 = .ok (.iload_n 3, 1) := by decide +kernel
theorem dX2_turnAt_19 : decode cX2_turnAt 19 = .ok (.iconst 4, 1) := by decide +kernel
theorem dX2_turnAt_20 : decode cX2_turnAt 20 = .ok (.iload_n 2, 1) := by decide +kernel
theorem dX2_turnAt_21 : decode cX2_turnAt 21 = .ok (.iconst 1, 1) := by decide +kernel
theorem dX2_turnAt_22 : decode cX2_turnAt 22 = .ok (.iadd, 1) := by decide +kernel
theorem dX2_turnAt_23 : decode cX2_turnAt 23 = .ok (.imul, 1) := by decide +kernel
theorem dX2_turnAt_24 : decode cX2_turnAt 24 = .ok (.if_icmp .ge 123, 3) := by decide +kernel
theorem dX2_turnAt_27 : decode cX2_turnAt 27 = .ok (.iload_n 3, 1) := by decide +kernel
theorem dX2_turnAt_28 : decode cX2_turnAt 28 = .ok (.iconst 4, 1) := by decide +kernel
theorem dX2_turnAt_29 : decode cX2_turnAt 29 = .ok (.irem, 1) := by decide +kernel
theorem dX2_turnAt_30 : decode cX2_turnAt 30 = .ok (.istore 4, 2) := by decide +kernel
theorem dX2_turnAt_32 : decode cX2_turnAt 32 = .ok (.iload_n 3, 1) := by decide +kernel
theorem dX2_turnAt_33 : decode cX2_turnAt 33 = .ok (.iconst 4, 1) := by decide +kernel
theorem dX2_turnAt_34 : decode cX2_turnAt 34 = .ok (.idiv, 1) := by decide +kernel
theorem dX2_turnAt_35 : decode cX2_turnAt 35 = .ok (.istore 5, 2) := by decide +kernel
theorem dX2_turnAt_37 : decode cX2_turnAt 37 = .ok (.iload 4, 2) := by decide +kernel
theorem dX2_turnAt_39 : decode cX2_turnAt 39 = .ok (.iload 5, 2) := by decide +kernel
theorem dX2_turnAt_41 : decode cX2_turnAt 41 = .ok (.iadd, 1) := by decide +kernel
theorem dX2_turnAt_42 : decode cX2_turnAt 42 = .ok (.iconst 3, 1) := by decide +kernel
theorem dX2_turnAt_43 : decode cX2_turnAt 43 = .ok (.iand, 1) := by decide +kernel
theorem dX2_turnAt_44 : decode cX2_turnAt 44 = .ok (.istore 6, 2) := by decide +kernel
theorem dX2_turnAt_46 : decode cX2_turnAt 46 = .ok (.iload 4, 2) := by decide +kernel
theorem dX2_turnAt_48 : decode cX2_turnAt 48 = .ok (.iload 5, 2) := by decide +kernel
theorem dX2_turnAt_50 : decode cX2_turnAt 50 = .ok (.isub, 1) := by decide +kernel
theorem dX2_turnAt_51 : decode cX2_turnAt 51 = .ok (.iconst 3, 1) := by decide +kernel
theorem dX2_turnAt_52 : decode cX2_turnAt 52 = .ok (.iand, 1) := by decide +kernel
theorem dX2_turnAt_53 : decode cX2_turnAt 53 = .ok (.istore 7, 2) := by decide +kernel
theorem dX2_turnAt_55 : decode cX2_turnAt 55 = .ok (.aload_n 0, 1) := by decide +kernel
theorem dX2_turnAt_56 : decode cX2_turnAt 56 = .ok (.getfield 24, 3) := by decide +kernel
theorem dX2_turnAt_59 : decode cX2_turnAt 59 = .ok (.sipush 144, 3) := by decide +kernel
theorem dX2_turnAt_62 : decode cX2_turnAt 62 = .ok (.iload_n 3, 1) := by decide +kernel
theorem dX2_turnAt_63 : decode cX2_turnAt 63 = .ok (.imul, 1) := by decide +kernel
theorem dX2_turnAt_64 : decode cX2_turnAt 64 = .ok (.iload_n 1, 1) := by decide +kernel
theorem dX2_turnAt_65 : decode cX2_turnAt 65 = .ok (.iadd, 1) := by decide +kernel
theorem dX2_turnAt_66 : decode cX2_turnAt 66 = .ok (.iaload, 1) := by decide +kernel
theorem dX2_turnAt_67 : decode cX2_turnAt 67 = .ok (.istore 8, 2) := by decide +kernel
theorem dX2_turnAt_69 : decode cX2_turnAt 69 = .ok (.aload_n 0, 1) := by decide +kernel
theorem dX2_turnAt_70 : decode cX2_turnAt 70 = .ok (.getfield 21, 3) := by decide +kernel
theorem dX2_turnAt_73 : decode cX2_turnAt 73 = .ok (.sipush 144, 3) := by decide +kernel
theorem dX2_turnAt_76 : decode cX2_turnAt 76 = .ok (.iload_n 3, 1) := by decide +kernel
theorem dX2_turnAt_77 : decode cX2_turnAt 77 = .ok (.imul, 1) := by decide +kernel
theorem dX2_turnAt_78 : decode cX2_turnAt 78 = .ok (.iload_n 1, 1) := by decide +kernel
theorem dX2_turnAt_79 : decode cX2_turnAt 79 = .ok (.iadd, 1) := by decide +kernel
theorem dX2_turnAt_80 : decode cX2_turnAt 80 = .ok (.iload 8, 2) := by decide +kernel
theorem dX2_turnAt_82 : decode cX2_turnAt 82 = .ok (.aload_n 0, 1) := by decide +kernel
theorem dX2_turnAt_83 : decode cX2_turnAt 83 = .ok (.getfield 27, 3) := by decide +kernel
theorem dX2_turnAt_86 : decode cX2_turnAt 86 = .ok (.iload 6, 2) := by decide +kernel
theorem dX2_turnAt_88 : decode cX2_turnAt 88 = .ok (.iaload, 1) := by decide +kernel
theorem dX2_turnAt_89 : decode cX2_turnAt 89 = .ok (.aload_n 0, 1) := by decide +kernel
theorem dX2_turnAt_90 : decode cX2_turnAt 90 = .ok (.getfield 30, 3) := by decide +kernel
theorem dX2_turnAt_93 : decode cX2_turnAt 93 = .ok (.iload 7, 2) := by decide +kernel
theorem dX2_turnAt_95 : decode cX2_turnAt 95 = .ok (.iaload, 1) := by decide +kernel
theorem dX2_turnAt_96 : decode cX2_turnAt 96 = .ok (.invokestatic 69, 3) := by decide +kernel
theorem dX2_turnAt_99 : decode cX2_turnAt 99 = .ok (.invokestatic 69, 3) := by decide +kernel
theorem dX2_turnAt_102 : decode cX2_turnAt 102 = .ok (.iastore, 1) := by decide +kernel
theorem dX2_turnAt_103 : decode cX2_turnAt 103 = .ok (.aload_n 0, 1) := by decide +kernel
theorem dX2_turnAt_104 : decode cX2_turnAt 104 = .ok (.getfield 27, 3) := by decide +kernel
theorem dX2_turnAt_107 : decode cX2_turnAt 107 = .ok (.iload 6, 2) := by decide +kernel
theorem dX2_turnAt_109 : decode cX2_turnAt 109 = .ok (.aload_n 0, 1) := by decide +kernel
theorem dX2_turnAt_110 : decode cX2_turnAt 110 = .ok (.getfield 27, 3) := by decide +kernel
theorem dX2_turnAt_113 : decode cX2_turnAt 113 = .ok (.iload 6, 2) := by decide +kernel
theorem dX2_turnAt_115 : decode cX2_turnAt 115 = .ok (.iaload, 1) := by decide +kernel
theorem dX2_turnAt_116 : decode cX2_turnAt 116 = .ok (.iload 8, 2) := by decide +kernel
theorem dX2_turnAt_118 : decode cX2_turnAt 118 = .ok (.invokestatic 69, 3) := by decide +kernel
theorem dX2_turnAt_121 : decode cX2_turnAt 121 = .ok (.iastore, 1) := by decide +kernel
theorem dX2_turnAt_122 : decode cX2_turnAt 122 = .ok (.aload_n 0, 1) := by decide +kernel
theorem dX2_turnAt_123 : decode cX2_turnAt 123 = .ok (.getfield 30, 3) := by decide +kernel
theorem dX2_turnAt_126 : decode cX2_turnAt 126 = .ok (.iload 7, 2) := by decide +kernel
theorem dX2_turnAt_128 : decode cX2_turnAt 128 = .ok (.aload_n 0, 1) := by decide +kernel
theorem dX2_turnAt_129 : decode cX2_turnAt 129 = .ok (.getfield 30, 3) := by decide +kernel
theorem dX2_turnAt_132 : decode cX2_turnAt 132 = .ok (.iload 7, 2) := by decide +kernel
theorem dX2_turnAt_134 : decode cX2_turnAt 134 = .ok (.iaload, 1) := by decide +kernel
theorem dX2_turnAt_135 : decode cX2_turnAt 135 = .ok (.iload 8, 2) := by decide +kernel
theorem dX2_turnAt_137 : decode cX2_turnAt 137 = .ok (.invokestatic 69, 3) := by decide +kernel
theorem dX2_turnAt_140 : decode cX2_turnAt 140 = .ok (.iastore, 1) := by decide +kernel
theorem dX2_turnAt_141 : decode cX2_turnAt 141 = .ok (.iinc 3 1, 3) := by decide +kernel
theorem dX2_turnAt_144 : decode cX2_turnAt 144 = .ok (.goto (-126), 3) := by decide +kernel
theorem dX2_turnAt_147 : decode cX2_turnAt 147 = .ok (.return_, 1) := by decide +kernel
theorem dX2_stepOn_0 : decode cX2_stepOn 0 = .ok (.aload_n 0, 1) := by decide +kernel
theorem dX2_stepOn_1 : decode cX2_stepOn 1 = .ok (.getfield 24, 3) := by decide +kernel
theorem dX2_stepOn_4 : decode cX2_stepOn 4 = .ok (.iconst 0, 1) := by decide +kernel
theorem dX2_stepOn_5 : decode cX2_stepOn 5 = .ok (.invokestatic 40, 3) := by decide +kernel
theorem dX2_stepOn_8 : decode cX2_stepOn 8 = .ok (.iconst 0, 1) := by decide +kernel
theorem dX2_stepOn_9 : decode cX2_stepOn 9 = .ok (.istore_n 2, 1) := by decide +kernel
theorem dX2_stepOn_10 : decode cX2_stepOn 10 = .ok (.iload_n 2, 1) := by decide +kernel
theorem dX2_stepOn_11 : decode cX2_stepOn 11 = .ok (.sipush 576, 3) := by decide +kernel
theorem dX2_stepOn_14 : decode cX2_stepOn 14 = .ok (.iload_n 1, 1) := by decide +kernel
theorem dX2_stepOn_15 : decode cX2_stepOn 15 = .ok (.iconst 1, 1) := by decide +kernel
theorem dX2_stepOn_16 : decode cX2_stepOn 16 = .ok (.iadd, 1) := by decide +kernel
theorem dX2_stepOn_17 : decode cX2_stepOn 17 = .ok (.imul, 1) := by decide +kernel
theorem dX2_stepOn_18 : decode cX2_stepOn 18 = .ok (.if_icmp .ge 62, 3) := by decide +kernel
theorem dX2_stepOn_21 : decode cX2_stepOn 21 = .ok (.aload_n 0, 1) := by decide +kernel
theorem dX2_stepOn_22 : decode cX2_stepOn 22 = .ok (.getfield 21, 3) := by decide +kernel
theorem dX2_stepOn_25 : decode cX2_stepOn 25 = .ok (.iload_n 2, 1) := by decide +kernel
theorem dX2_stepOn_26 : decode cX2_stepOn 26 = .ok (.iaload, 1) := by decide +kernel
theorem dX2_stepOn_27 : decode cX2_stepOn 27 = .ok (.ifCond .eq 47, 3) := by decide +kernel
theorem dX2_stepOn_30 : decode cX2_stepOn 30 = .ok (.aload_n 0, 1) := by decide +kernel
theorem dX2_stepOn_31 : decode cX2_stepOn 31 = .ok (.iload_n 2, 1) := by decide +kernel
theorem dX2_stepOn_32 : decode cX2_stepOn 32 = .ok (.sipush 144, 3) := by decide +kernel
theorem dX2_stepOn_35 : decode cX2_stepOn 35 = .ok (.irem, 1) := by decide +kernel
theorem dX2_stepOn_36 : decode cX2_stepOn 36 = .ok (.iload_n 2, 1) := by decide +kernel
theorem dX2_stepOn_37 : decode cX2_stepOn 37 = .ok (.sipush 576, 3) := by decide +kernel
theorem dX2_stepOn_40 : decode cX2_stepOn 40 = .ok (.irem, 1) := by decide +kernel
theorem dX2_stepOn_41 : decode cX2_stepOn 41 = .ok (.sipush 144, 3) := by decide +kernel
theorem dX2_stepOn_44 : decode cX2_stepOn 44 = .ok (.idiv, 1) := by decide +kernel
theorem dX2_stepOn_45 : decode cX2_stepOn 45 = .ok (.invokevirtual 91, 3) := by decide +kernel
theorem dX2_stepOn_48 : decode cX2_stepOn 48 = .ok (.istore_n 3, 1) := by decide +kernel
theorem dX2_stepOn_49 : decode cX2_stepOn 49 = .ok (.iload_n 3, 1) := by decide +kernel
theorem dX2_stepOn_50 : decode cX2_stepOn 50 = .ok (.iconst (-1), 1) := by decide +kernel
theorem dX2_stepOn_51 : decode cX2_stepOn 51 = .ok (.if_icmp .eq 23, 3) := by decide +kernel
theorem dX2_stepOn_54 : decode cX2_stepOn 54 = .ok (.aload_n 0, 1) := by decide +kernel
theorem dX2_stepOn_55 : decode cX2_stepOn 55 = .ok (.getfield 24, 3) := by decide +kernel
theorem dX2_stepOn_58 : decode cX2_stepOn 58 = .ok (.iload_n 2, 1) := by decide +kernel
theorem dX2_stepOn_59 : decode cX2_stepOn 59 = .ok (.iload_n 2, 1) := by decide +kernel
theorem dX2_stepOn_60 : decode cX2_stepOn 60 = .ok (.sipush 144, 3) := by decide +kernel
theorem dX2_stepOn_63 : decode cX2_stepOn 63 = .ok (.irem, 1) := by decide +kernel
theorem dX2_stepOn_64 : decode cX2_stepOn 64 = .ok (.isub, 1) := by decide +kernel
theorem dX2_stepOn_65 : decode cX2_stepOn 65 = .ok (.iload_n 3, 1) := by decide +kernel
theorem dX2_stepOn_66 : decode cX2_stepOn 66 = .ok (.iadd, 1) := by decide +kernel
theorem dX2_stepOn_67 : decode cX2_stepOn 67 = .ok (.aload_n 0, 1) := by decide +kernel
theorem dX2_stepOn_68 : decode cX2_stepOn 68 = .ok (.getfield 21, 3) := by decide +kernel
theorem dX2_stepOn_71 : decode cX2_stepOn 71 = .ok (.iload_n 2, 1) := by decide +kernel
theorem dX2_stepOn_72 : decode cX2_stepOn 72 = .ok (.iaload, 1) := by decide +kernel
theorem dX2_stepOn_73 : decode cX2_stepOn 73 = .ok (.iastore, 1) := by decide +kernel
theorem dX2_stepOn_74 : decode cX2_stepOn 74 = .ok (.iinc 2 1, 3) := by decide +kernel
theorem dX2_stepOn_77 : decode cX2_stepOn 77 = .ok (.goto (-67), 3) := by decide +kernel
theorem dX2_stepOn_80 : decode cX2_stepOn 80 = .ok (.return_, 1) := by decide +kernel
theorem dX2_plus_0 : decode cX2_plus 0 = .ok (.iload_n 0, 1) := by decide +kernel
theorem dX2_plus_1 : decode cX2_plus 1 = .ok (.iload_n 1, 1) := by decide +kernel
theorem dX2_plus_2 : decode cX2_plus 2 = .ok (.iadd, 1) := by decide +kernel
theorem dX2_plus_3 : decode cX2_plus 3 = .ok (.istore_n 2, 1) := by decide +kernel
theorem dX2_plus_4 : decode cX2_plus 4 = .ok (.iload_n 2, 1) := by decide +kernel
theorem dX2_plus_5 : decode cX2_plus 5 = .ok (.ldc 113, 2) := by decide +kernel
theorem dX2_plus_7 : decode cX2_plus 7 = .ok (.if_icmp .lt 10, 3) := by decide +kernel
theorem dX2_plus_10 : decode cX2_plus 10 = .ok (.iload_n 2, 1) := by decide +kernel
theorem dX2_plus_11 : decode cX2_plus 11 = .ok (.ldc 113, 2) := by decide +kernel
theorem dX2_plus_13 : decode cX2_plus 13 = .ok (.isub, 1) := by decide +kernel
theorem dX2_plus_14 : decode cX2_plus 14 = .ok (.goto 4, 3) := by decide +kernel
theorem dX2_plus_17 : decode cX2_plus 17 = .ok (.iload_n 2, 1) := by decide +kernel
theorem dX2_plus_18 : decode cX2_plus 18 = .ok (.ireturn, 1) := by decide +kernel
theorem dX2_nearest_0 : decode cX2_nearest 0 = .ok (.iload_n 1, 1) := by decide +kernel
theorem dX2_nearest_1 : decode cX2_nearest 1 = .ok (.ifCond .gt 7, 3) := by decide +kernel
theorem dX2_nearest_4 : decode cX2_nearest 4 = .ok (.iconst 0, 1) := by decide +kernel
theorem dX2_nearest_5 : decode cX2_nearest 5 = .ok (.goto 14, 3) := by decide +kernel
theorem dX2_nearest_8 : decode cX2_nearest 8 = .ok (.iconst 2, 1) := by decide +kernel
theorem dX2_nearest_9 : decode cX2_nearest 9 = .ok (.iload_n 0, 1) := by decide +kernel
theorem dX2_nearest_10 : decode cX2_nearest 10 = .ok (.imul, 1) := by decide +kernel
theorem dX2_nearest_11 : decode cX2_nearest 11 = .ok (.iload_n 1, 1) := by decide +kernel
theorem dX2_nearest_12 : decode cX2_nearest 12 = .ok (.iadd, 1) := by decide +kernel
theorem dX2_nearest_13 : decode cX2_nearest 13 = .ok (.iconst 2, 1) := by decide +kernel
theorem dX2_nearest_14 : decode cX2_nearest 14 = .ok (.iload_n 1, 1) := by decide +kernel
theorem dX2_nearest_15 : decode cX2_nearest 15 = .ok (.imul, 1) := by decide +kernel
theorem dX2_nearest_16 : decode cX2_nearest 16 = .ok (.invokestatic 114, 3) := by decide +kernel
theorem dX2_nearest_19 : decode cX2_nearest 19 = .ok (.ireturn, 1) := by decide +kernel
theorem dX2_cheapestBeside_0 : decode cX2_cheapestBeside 0 = .ok (.iload_n 1, 1) := by decide +kernel
theorem dX2_cheapestBeside_1 : decode cX2_cheapestBeside 1 = .ok (.bipush 12, 2) := by decide +kernel
theorem dX2_cheapestBeside_3 : decode cX2_cheapestBeside 3 = .ok (.irem, 1) := by decide +kernel
theorem dX2_cheapestBeside_4 : decode cX2_cheapestBeside 4 = .ok (.istore_n 2, 1) := by decide +kernel
theorem dX2_cheapestBeside_5 : decode cX2_cheapestBeside 5 = .ok (.iload_n 1, 1) := by decide +kernel
theorem dX2_cheapestBeside_6 : decode cX2_cheapestBeside 6 = .ok (.bipush 12, 2) := by decide +kernel
theorem dX2_cheapestBeside_8 : decode cX2_cheapestBeside 8 = .ok (.idiv, 1) := by decide +kernel
theorem dX2_cheapestBeside_9 : decode cX2_cheapestBeside 9 = .ok (.istore_n 3, 1) := by decide +kernel
theorem dX2_cheapestBeside_10 : decode cX2_cheapestBeside 10 = .ok (.iload_n 2, 1) := by decide +kernel
theorem dX2_cheapestBeside_11 : decode cX2_cheapestBeside 11 = .ok (.ifCond .ne 5, 3) := by decide +kernel
theorem dX2_cheapestBeside_14 : decode cX2_cheapestBeside 14 = .ok (.iconst 0, 1) := by decide +kernel
theorem dX2_cheapestBeside_15 : decode cX2_cheapestBeside 15 = .ok (.ireturn, 1) := by decide +kernel
theorem dX2_cheapestBeside_16 : decode cX2_cheapestBeside 16 = .ok (.ldc 50, 2) := by decide +kernel
theorem dX2_cheapestBeside_18 : decode cX2_cheapestBeside 18 = .ok (.istore 4, 2) := by decide +kernel
theorem dX2_cheapestBeside_20 : decode cX2_cheapestBeside 20 = .ok (.iconst 0, 1) := by decide +kernel
theorem dX2_cheapestBeside_21 : decode cX2_cheapestBeside 21 = .ok (.iload_n 3, 1) := by decide +kernel
theorem dX2_cheapestBeside_22 : decode cX2_cheapestBeside 22 = .ok (.iconst 1, 1) := by decide +kernel
theorem dX2_cheapestBeside_23 : decode cX2_cheapestBeside 23 = .ok (.isub, 1) := by decide +kernel
theorem dX2_cheapestBeside_24 : decode cX2_cheapestBeside 24 = .ok (.invokestatic 76, 3) := by decide +kernel
theorem dX2_cheapestBeside_27 : decode cX2_cheapestBeside 27 = .ok (.istore 5, 2) := by decide +kernel
theorem dX2_cheapestBeside_29 : decode cX2_cheapestBeside 29 = .ok (.iload 5, 2) := by decide +kernel
theorem dX2_cheapestBeside_31 : decode cX2_cheapestBeside 31 = .ok (.bipush 11, 2) := by decide +kernel
theorem dX2_cheapestBeside_33 : decode cX2_cheapestBeside 33 = .ok (.iload_n 3, 1) := by decide +kernel
theorem dX2_cheapestBeside_34 : decode cX2_cheapestBeside 34 = .ok (.iconst 1, 1) := by decide +kernel
theorem dX2_cheapestBeside_35 : decode cX2_cheapestBeside 35 = .ok (.iadd, 1) := by decide +kernel
theorem dX2_cheapestBeside_36 : decode cX2_cheapestBeside 36 = .ok (.invokestatic 57, 3) := by decide +kernel
theorem dX2_cheapestBeside_39 : decode cX2_cheapestBeside 39 = .ok (.if_icmp .gt 53, 3) := by decide +kernel
theorem dX2_cheapestBeside_42 : decode cX2_cheapestBeside 42 = .ok (.iload_n 2, 1) := by decide +kernel
theorem dX2_cheapestBeside_43 : decode cX2_cheapestBeside 43 = .ok (.iconst 1, 1) := by decide +kernel
theorem dX2_cheapestBeside_44 : decode cX2_cheapestBeside 44 = .ok (.isub, 1) := by decide +kernel
theorem dX2_cheapestBeside_45 : decode cX2_cheapestBeside 45 = .ok (.istore 6, 2) := by decide +kernel
theorem dX2_cheapestBeside_47 : decode cX2_cheapestBeside 47 = .ok (.iload 6, 2) := by decide +kernel
theorem dX2_cheapestBeside_49 : decode cX2_cheapestBeside 49 = .ok (.bipush 11, 2) := by decide +kernel
theorem dX2_cheapestBeside_51 : decode cX2_cheapestBeside 51 = .ok (.iload_n 2, 1) := by decide +kernel
theorem dX2_cheapestBeside_52 : decode cX2_cheapestBeside 52 = .ok (.iconst 1, 1) := by decide +kernel
theorem dX2_cheapestBeside_53 : decode cX2_cheapestBeside 53 = .ok (.iadd, 1) := by decide +kernel
theorem dX2_cheapestBeside_54 : decode cX2_cheapestBeside 54 = .ok (.invokestatic 57, 3) := by decide +kernel
theorem dX2_cheapestBeside_57 : decode cX2_cheapestBeside 57 = .ok (.if_icmp .gt 29, 3) := by decide +kernel
theorem dX2_cheapestBeside_60 : decode cX2_cheapestBeside 60 = .ok (.iload 4, 2) := by decide +kernel
theorem dX2_cheapestBeside_62 : decode cX2_cheapestBeside 62 = .ok (.aload_n 0, 1) := by decide +kernel
theorem dX2_cheapestBeside_63 : decode cX2_cheapestBeside 63 = .ok (.getfield 11, 3) := by decide +kernel
theorem dX2_cheapestBeside_66 : decode cX2_cheapestBeside 66 = .ok (.bipush 12, 2) := by decide +kernel
theorem dX2_cheapestBeside_68 : decode cX2_cheapestBeside 68 = .ok (.iload 5, 2) := by decide +kernel
theorem dX2_cheapestBeside_70 : decode cX2_cheapestBeside 70 = .ok (.imul, 1) := by decide +kernel
theorem dX2_cheapestBeside_71 : decode cX2_cheapestBeside 71 = .ok (.iload 6, 2) := by decide +kernel
theorem dX2_cheapestBeside_73 : decode cX2_cheapestBeside 73 = .ok (.iadd, 1) := by decide +kernel
theorem dX2_cheapestBeside_74 : decode cX2_cheapestBeside 74 = .ok (.iaload, 1) := by decide +kernel
theorem dX2_cheapestBeside_75 : decode cX2_cheapestBeside 75 = .ok (.invokestatic 57, 3) := by decide +kernel
theorem dX2_cheapestBeside_78 : decode cX2_cheapestBeside 78 = .ok (.istore 4, 2) := by decide +kernel
theorem dX2_cheapestBeside_80 : decode cX2_cheapestBeside 80 = .ok (.iinc 6 1, 3) := by decide +kernel
theorem dX2_cheapestBeside_83 : decode cX2_cheapestBeside 83 = .ok (.goto (-36), 3) := by decide +kernel
theorem dX2_cheapestBeside_86 : decode cX2_cheapestBeside 86 = .ok (.iinc 5 1, 3) := by decide +kernel
theorem dX2_cheapestBeside_89 : decode cX2_cheapestBeside 89 = .ok (.goto (-60), 3) := by decide +kernel
theorem dX2_cheapestBeside_92 : decode cX2_cheapestBeside 92 = .ok (.iload 4, 2) := by decide +kernel
theorem dX2_cheapestBeside_94 : decode cX2_cheapestBeside 94 = .ok (.ireturn, 1) := by decide +kernel
theorem dX2_flockFrom_0 : decode cX2_flockFrom 0 = .ok (.aload_n 0, 1) := by decide +kernel
theorem dX2_flockFrom_1 : decode cX2_flockFrom 1 = .ok (.getfield 11, 3) := by decide +kernel
theorem dX2_flockFrom_4 : decode cX2_flockFrom 4 = .ok (.iload_n 1, 1) := by decide +kernel
theorem dX2_flockFrom_5 : decode cX2_flockFrom 5 = .ok (.iconst 0, 1) := by decide +kernel
theorem dX2_flockFrom_6 : decode cX2_flockFrom 6 = .ok (.iastore, 1) := by decide +kernel
theorem dX2_flockFrom_7 : decode cX2_flockFrom 7 = .ok (.aload_n 0, 1) := by decide +kernel
theorem dX2_flockFrom_8 : decode cX2_flockFrom 8 = .ok (.getfield 18, 3) := by decide +kernel
theorem dX2_flockFrom_11 : decode cX2_flockFrom 11 = .ok (.iconst 0, 1) := by decide +kernel
theorem dX2_flockFrom_12 : decode cX2_flockFrom 12 = .ok (.iload_n 1, 1) := by decide +kernel
theorem dX2_flockFrom_13 : decode cX2_flockFrom 13 = .ok (.iastore, 1) := by decide +kernel
theorem dX2_flockFrom_14 : decode cX2_flockFrom 14 = .ok (.iconst 1, 1) := by decide +kernel
theorem dX2_flockFrom_15 : decode cX2_flockFrom 15 = .ok (.istore_n 2, 1) := by decide +kernel
theorem dX2_flockFrom_16 : decode cX2_flockFrom 16 = .ok (.iconst 0, 1) := by decide +kernel
theorem dX2_flockFrom_17 : decode cX2_flockFrom 17 = .ok (.istore_n 3, 1) := by decide +kernel
theorem dX2_flockFrom_18 : decode cX2_flockFrom 18 = .ok (.iload_n 3, 1) := by decide +kernel
theorem dX2_flockFrom_19 : decode cX2_flockFrom 19 = .ok (.iload_n 2, 1) := by decide +kernel
theorem dX2_flockFrom_20 : decode cX2_flockFrom 20 = .ok (.if_icmp .ge 81, 3) := by decide +kernel
theorem dX2_flockFrom_23 : decode cX2_flockFrom 23 = .ok (.iconst 0, 1) := by decide +kernel
theorem dX2_flockFrom_24 : decode cX2_flockFrom 24 = .ok (.istore 4, 2) := by decide +kernel
theorem dX2_flockFrom_26 : decode cX2_flockFrom 26 = .ok (.iload 4, 2) := by decide +kernel
theorem dX2_flockFrom_28 : decode cX2_flockFrom 28 = .ok (.iconst 4, 1) := by decide +kernel
theorem dX2_flockFrom_29 : decode cX2_flockFrom 29 = .ok (.if_icmp .ge 66, 3) := by decide +kernel
theorem dX2_flockFrom_32 : decode cX2_flockFrom 32 = .ok (.aload_n 0, 1) := by decide +kernel
theorem dX2_flockFrom_33 : decode cX2_flockFrom 33 = .ok (.aload_n 0, 1) := by decide +kernel
theorem dX2_flockFrom_34 : decode cX2_flockFrom 34 = .ok (.getfield 18, 3) := by decide +kernel
theorem dX2_flockFrom_37 : decode cX2_flockFrom 37 = .ok (.iload_n 3, 1) := by decide +kernel
theorem dX2_flockFrom_38 : decode cX2_flockFrom 38 = .ok (.iaload, 1) := by decide +kernel
theorem dX2_flockFrom_39 : decode cX2_flockFrom 39 = .ok (.iload 4, 2) := by decide +kernel
theorem dX2_flockFrom_41 : decode cX2_flockFrom 41 = .ok (.invokevirtual 91, 3) := by decide +kernel
theorem dX2_flockFrom_44 : decode cX2_flockFrom 44 = .ok (.istore 5, 2) := by decide +kernel
theorem dX2_flockFrom_46 : decode cX2_flockFrom 46 = .ok (.iload 5, 2) := by decide +kernel
theorem dX2_flockFrom_48 : decode cX2_flockFrom 48 = .ok (.iconst (-1), 1) := by decide +kernel
theorem dX2_flockFrom_49 : decode cX2_flockFrom 49 = .ok (.if_icmp .eq 40, 3) := by decide +kernel
theorem dX2_flockFrom_52 : decode cX2_flockFrom 52 = .ok (.aload_n 0, 1) := by decide +kernel
theorem dX2_flockFrom_53 : decode cX2_flockFrom 53 = .ok (.getfield 11, 3) := by decide +kernel
theorem dX2_flockFrom_56 : decode cX2_flockFrom 56 = .ok (.iload 5, 2) := by decide +kernel
theorem dX2_flockFrom_58 : decode cX2_flockFrom 58 = .ok (.iaload, 1) := by decide +kernel
theorem dX2_flockFrom_59 : decode cX2_flockFrom 59 = .ok (.iconst (-1), 1) := by decide +kernel
theorem dX2_flockFrom_60 : decode cX2_flockFrom 60 = .ok (.if_icmp .ne 29, 3) := by decide +kernel
theorem dX2_flockFrom_63 : decode cX2_flockFrom 63 = .ok (.iload_n 2, 1) := by decide +kernel
theorem dX2_flockFrom_64 : decode cX2_flockFrom 64 = .ok (.sipush 576, 3) := by decide +kernel
theorem dX2_flockFrom_67 : decode cX2_flockFrom 67 = .ok (.if_icmp .ge 22, 3) := by decide +kernel
theorem dX2_flockFrom_70 : decode cX2_flockFrom 70 = .ok (.aload_n 0, 1) := by decide +kernel
theorem dX2_flockFrom_71 : decode cX2_flockFrom 71 = .ok (.getfield 11, 3) := by decide +kernel
theorem dX2_flockFrom_74 : decode cX2_flockFrom 74 = .ok (.iload 5, 2) := by decide +kernel
theorem dX2_flockFrom_76 : decode cX2_flockFrom 76 = .ok (.iconst 0, 1) := by decide +kernel
theorem dX2_flockFrom_77 : decode cX2_flockFrom 77 = .ok (.iastore, 1) := by decide +kernel
theorem dX2_flockFrom_78 : decode cX2_flockFrom 78 = .ok (.aload_n 0, 1) := by decide +kernel
theorem dX2_flockFrom_79 : decode cX2_flockFrom 79 = .ok (.getfield 18, 3) := by decide +kernel
theorem dX2_flockFrom_82 : decode cX2_flockFrom 82 = .ok (.iload_n 2, 1) := by decide +kernel
theorem dX2_flockFrom_83 : decode cX2_flockFrom 83 = .ok (.iload 5, 2) := by decide +kernel
theorem dX2_flockFrom_85 : decode cX2_flockFrom 85 = .ok (.iastore, 1) := by decide +kernel
theorem dX2_flockFrom_86 : decode cX2_flockFrom 86 = .ok (.iinc 2 1, 3) := by decide +kernel
theorem dX2_flockFrom_89 : decode cX2_flockFrom 89 = .ok (.iinc 4 1, 3) := by decide +kernel
theorem dX2_flockFrom_92 : decode cX2_flockFrom 92 = .ok (.goto (-66), 3) := by decide +kernel
theorem dX2_flockFrom_95 : decode cX2_flockFrom 95 = .ok (.iinc 3 1, 3) := by decide +kernel
theorem dX2_flockFrom_98 : decode cX2_flockFrom 98 = .ok (.goto (-80), 3) := by decide +kernel
theorem dX2_flockFrom_101 : decode cX2_flockFrom 101 = .ok (.iload_n 2, 1) := by decide +kernel
theorem dX2_flockFrom_102 : decode cX2_flockFrom 102 = .ok (.ireturn, 1) := by decide +kernel
theorem dX3_init_0 : decode cX3_init 0 = .ok (.aload_n 0, 1) := by decide +kernel
theorem dX3_init_1 : decode cX3_init 1 = .ok (.invokespecial 3, 3) := by decide +kernel
theorem dX3_init_4 : decode cX3_init 4 = .ok (.aload_n 0, 1) := by decide +kernel
theorem dX3_init_5 : decode cX3_init 5 = .ok (.bipush 16, 2) := by decide +kernel
theorem dX3_init_7 : decode cX3_init 7 = .ok (.newarray .int, 2) := by decide +kernel
theorem dX3_init_9 : decode cX3_init 9 = .ok (.putfield 9, 3) := by decide +kernel
theorem dX3_init_12 : decode cX3_init 12 = .ok (.aload_n 0, 1) := by decide +kernel
theorem dX3_init_13 : decode cX3_init 13 = .ok (.bipush 16, 2) := by decide +kernel
theorem dX3_init_15 : decode cX3_init 15 = .ok (.newarray .int, 2) := by decide +kernel
theorem dX3_init_17 : decode cX3_init 17 = .ok (.putfield 15, 3) := by decide +kernel
theorem dX3_init_20 : decode cX3_init 20 = .ok (.aload_n 0, 1) := by decide +kernel
theorem dX3_init_21 : decode cX3_init 21 = .ok (.bipush 16, 2) := by decide +kernel
theorem dX3_init_23 : decode cX3_init 23 = .ok (.newarray .int, 2) := by decide +kernel
theorem dX3_init_25 : decode cX3_init 25 = .ok (.putfield 18, 3) := by decide +kernel
theorem dX3_init_28 : decode cX3_init 28 = .ok (.aload_n 0, 1) := by decide +kernel
theorem dX3_init_29 : decode cX3_init 29 = .ok (.sipush 400, 3) := by decide +kernel
theorem dX3_init_32 : decode cX3_init 32 = .ok (.newarray .int, 2) := by decide +kernel
theorem dX3_init_34 : decode cX3_init 34 = .ok (.putfield 21, 3) := by decide +kernel
theorem dX3_init_37 : decode cX3_init 37 = .ok (.aload_n 0, 1) := by decide +kernel
theorem dX3_init_38 : decode cX3_init 38 = .ok (.bipush 64, 2) := by decide +kernel
theorem dX3_init_40 : decode cX3_init 40 = .ok (.newarray .int, 2) := by decide +kernel
theorem dX3_init_42 : decode cX3_init 42 = .ok (.putfield 24, 3) := by decide +kernel
theorem dX3_init_45 : decode cX3_init 45 = .ok (.return_, 1) := by decide +kernel
theorem dX3_read_0 : decode cX3_read 0 = .ok (.aload_n 0, 1) := by decide +kernel
theorem dX3_read_1 : decode cX3_read 1 = .ok (.iconst 0, 1) := by decide +kernel
theorem dX3_read_2 : decode cX3_read 2 = .ok (.putfield 27, 3) := by decide +kernel
theorem dX3_read_5 : decode cX3_read 5 = .ok (.aload_n 0, 1) := by decide +kernel
theorem dX3_read_6 : decode cX3_read 6 = .ok (.iconst 0, 1) := by decide +kernel
theorem dX3_read_7 : decode cX3_read 7 = .ok (.putfield 31, 3) := by decide +kernel
theorem dX3_read_10 : decode cX3_read 10 = .ok (.aload_n 0, 1) := by decide +kernel
theorem dX3_read_11 : decode cX3_read 11 = .ok (.getfield 31, 3) := by decide +kernel
theorem dX3_read_14 : decode cX3_read 14 = .ok (.bipush 16, 2) := by decide +kernel
theorem dX3_read_16 : decode cX3_read 16 = .ok (.if_icmp .gt 148, 3) := by decide +kernel
theorem dX3_read_19 : decode cX3_read 19 = .ok (.aload_n 1, 1) := by decide +kernel
theorem dX3_read_20 : decode cX3_read 20 = .ok (.invokevirtual 34, 3) := by decide +kernel
theorem dX3_read_23 : decode cX3_read 23 = .ok (.ifCond .eq 141, 3) := by decide +kernel
theorem dX3_read_26 : decode cX3_read 26 = .ok (.aload_n 1, 1) := by decide +kernel
theorem dX3_read_27 : decode cX3_read 27 = .ok (.invokevirtual 34, 3) := by decide +kernel
theorem dX3_read_30 : decode cX3_read 30 = .ok (.istore_n 2, 1) := by decide +kernel
theorem dX3_read_31 : decode cX3_read 31 = .ok (.aload_n 1, 1) := by decide +kernel
theorem dX3_read_32 : decode cX3_read 32 = .ok (.iload_n 2, 1) := by decide +kernel
theorem dX3_read_33 : decode cX3_read 33 = .ok (.sipush 128, 3) := by decide +kernel
theorem dX3_read_36 : decode cX3_read 36 = .ok (.if_icmp .lt 14, 3) := by decide +kernel
theorem dX3_read_39 : decode cX3_read 39 = .ok (.iload_n 2, 1) := by decide +kernel
theorem dX3_read_40 : decode cX3_read 40 = .ok (.sipush 130, 3) := by decide +kernel
theorem dX3_read_43 : decode cX3_read 43 = .ok (.if_icmp .gt 7, 3) := by decide +kernel
theorem dX3_read_46 : decode cX3_read 46 = .ok (.iconst 1, 1) := by decide +kernel
theorem dX3_read_47 : decode cX3_read 47 = .ok (.goto 4, 3) := by decide +kernel
theorem dX3_read_50 : decode cX3_read 50 = .ok (.iconst 0, 1) := by decide +kernel
theorem dX3_read_51 : decode cX3_read 51 = .ok (.aload_n 0, 1) := by decide +kernel
theorem dX3_read_52 : decode cX3_read 52 = .ok (.getfield 31, 3) := by decide +kernel
theorem dX3_read_55 : decode cX3_read 55 = .ok (.bipush 16, 2) := by decide +kernel
theorem dX3_read_57 : decode cX3_read 57 = .ok (.invokevirtual 40, 3) := by decide +kernel
theorem dX3_read_60 : decode cX3_read 60 = .ok (.ifCond .ne 5, 3) := by decide +kernel
theorem dX3_read_63 : decode cX3_read 63 = .ok (.iconst (-1), 1) := by decide +kernel
theorem dX3_read_64 : decode cX3_read 64 = .ok (.ireturn, 1) := by decide +kernel
theorem dX3_read_65 : decode cX3_read 65 = .ok (.aload_n 1, 1) := by decide +kernel
theorem dX3_read_66 : decode cX3_read 66 = .ok (.invokevirtual 44, 3) := by decide +kernel
theorem dX3_read_69 : decode cX3_read 69 = .ok (.aload_n 0, 1) := by decide +kernel
theorem dX3_read_70 : decode cX3_read 70 = .ok (.aload_n 1, 1) := by decide +kernel
theorem dX3_read_71 : decode cX3_read 71 = .ok (.invokevirtual 47, 3) := by decide +kernel
theorem dX3_read_74 : decode cX3_read 74 = .ok (.ifCond .ne 5, 3) := by decide +kernel
theorem dX3_read_77 : decode cX3_read 77 = .ok (.iconst (-1), 1) := by decide +kernel
theorem dX3_read_78 : decode cX3_read 78 = .ok (.ireturn, 1) := by decide +kernel
theorem dX3_read_79 : decode cX3_read 79 = .ok (.aload_n 0, 1) := by decide +kernel
theorem dX3_read_80 : decode cX3_read 80 = .ok (.getfield 9, 3) := by decide +kernel
theorem dX3_read_83 : decode cX3_read 83 = .ok (.aload_n 0, 1) := by decide +kernel
theorem dX3_read_84 : decode cX3_read 84 = .ok (.getfield 31, 3) := by decide +kernel
theorem dX3_read_87 : decode cX3_read 87 = .ok (.iload_n 2, 1) := by decide +kernel
theorem dX3_read_88 : decode cX3_read 88 = .ok (.iastore, 1) := by decide +kernel
theorem dX3_read_89 : decode cX3_read 89 = .ok (.aload_n 0, 1) := by decide +kernel
theorem dX3_read_90 : decode cX3_read 90 = .ok (.getfield 15, 3) := by decide +kernel
theorem dX3_read_93 : decode cX3_read 93 = .ok (.aload_n 0, 1) := by decide +kernel
theorem dX3_read_94 : decode cX3_read 94 = .ok (.getfield 31, 3) := by decide +kernel
theorem dX3_read_97 : decode cX3_read 97 = .ok (.aload_n 0, 1) := by decide +kernel
theorem dX3_read_98 : decode cX3_read 98 = .ok (.getfield 27, 3) := by decide +kernel
theorem dX3_read_101 : decode cX3_read 101 = .ok (.iastore, 1) := by decide +kernel
theorem dX3_read_102 : decode cX3_read 102 = .ok (.aload_n 1, 1) := by decide +kernel
theorem dX3_read_103 : decode cX3_read 103 = .ok (.invokevirtual 34, 3) := by decide +kernel
theorem dX3_read_106 : decode cX3_read 106 = .ok (.sipush 131, 3) := by decide +kernel
theorem dX3_read_109 : decode cX3_read 109 = .ok (.if_icmp .ne 18, 3) := by decide +kernel
theorem dX3_read_112 : decode cX3_read 112 = .ok (.aload_n 1, 1) := by decide +kernel
theorem dX3_read_113 : decode cX3_read 113 = .ok (.invokevirtual 44, 3) := by decide +kernel
theorem dX3_read_116 : decode cX3_read 116 = .ok (.aload_n 0, 1) := by decide +kernel
theorem dX3_read_117 : decode cX3_read 117 = .ok (.aload_n 1, 1) := by decide +kernel
theorem dX3_read_118 : decode cX3_read 118 = .ok (.iconst 0, 1) := by decide +kernel
theorem dX3_read_119 : decode cX3_read 119 = .ok (.invokevirtual 51, 3) := by decide +kernel
theorem dX3_read_122 : decode cX3_read 122 = .ok (.ifCond .ne 5, 3) := by decide +kernel
theorem dX3_read_125 : decode cX3_read 125 = .ok (.iconst (-1), 1) := by decide +kernel
theorem dX3_read_126 : decode cX3_read 126 = .ok (.ireturn, 1) := by decide +kernel
theorem dX3_read_127 : decode cX3_read 127 = .ok (.aload_n 0, 1) := by decide +kernel
theorem dX3_read_128 : decode cX3_read 128 = .ok (.getfield 18, 3) := by decide +kernel
theorem dX3_read_131 : decode cX3_read 131 = .ok (.aload_n 0, 1) := by decide +kernel
theorem dX3_read_132 : decode cX3_read 132 = .ok (.getfield 31, 3) := by decide +kernel
theorem dX3_read_135 : decode cX3_read 135 = .ok (.aload_n 0, 1) := by decide +kernel
theorem dX3_read_136 : decode cX3_read 136 = .ok (.getfield 27, 3) := by decide +kernel
theorem dX3_read_139 : decode cX3_read 139 = .ok (.iastore, 1) := by decide +kernel
theorem dX3_read_140 : decode cX3_read 140 = .ok (.aload_n 1, 1) := by decide +kernel
theorem dX3_read_141 : decode cX3_read 141 = .ok (.bipush 59, 2) := by decide +kernel
theorem dX3_read_143 : decode cX3_read 143 = .ok (.invokevirtual 55, 3) := by decide +kernel
theorem dX3_read_146 : decode cX3_read 146 = .ok (.ifCond .ne 5, 3) := by decide +kernel
theorem dX3_read_149 : decode cX3_read 149 = .ok (.iconst (-1), 1) := by decide +kernel
theorem dX3_read_150 : decode cX3_read 150 = .ok (.ireturn, 1) := by decide +kernel
theorem dX3_read_151 : decode cX3_read 151 = .ok (.aload_n 0, 1) := by decide +kernel
theorem dX3_read_152 : decode cX3_read 152 = .ok (.dup, 1) := by decide +kernel
theorem dX3_read_153 : decode cX3_read 153 = .ok (.getfield 31, 3) := by decide +kernel
theorem dX3_read_156 : decode cX3_read 156 = .ok (.iconst 1, 1) := by decide +kernel
theorem dX3_read_157 : decode cX3_read 157 = .ok (.iadd, 1) := by decide +kernel
theorem dX3_read_158 : decode cX3_read 158 = .ok (.putfield 31, 3) := by decide +kernel
theorem dX3_read_161 : decode cX3_read 161 = .ok (.goto (-151), 3) := by decide +kernel
theorem dX3_read_164 : decode cX3_read 164 = .ok (.aload_n 0, 1) := by decide +kernel
theorem dX3_read_165 : decode cX3_read 165 = .ok (.getfield 31, 3) := by decide +kernel
theorem dX3_read_168 : decode cX3_read 168 = .ok (.ireturn, 1) := by decide +kernel
theorem dX3_tells_0 : decode cX3_tells 0 = .ok (.iload_n 1, 1) := by decide +kernel
theorem dX3_tells_1 : decode cX3_tells 1 = .ok (.aload_n 2, 1) := by decide +kernel
theorem dX3_tells_2 : decode cX3_tells 2 = .ok (.invokestatic 59, 3) := by decide +kernel
theorem dX3_tells_5 : decode cX3_tells 5 = .ok (.istore_n 3, 1) := by decide +kernel
theorem dX3_tells_6 : decode cX3_tells 6 = .ok (.iconst 0, 1) := by decide +kernel
theorem dX3_tells_7 : decode cX3_tells 7 = .ok (.istore 4, 2) := by decide +kernel
theorem dX3_tells_9 : decode cX3_tells 9 = .ok (.iconst 0, 1) := by decide +kernel
theorem dX3_tells_10 : decode cX3_tells 10 = .ok (.istore 5, 2) := by decide +kernel
theorem dX3_tells_12 : decode cX3_tells 12 = .ok (.iload 5, 2) := by decide +kernel
theorem dX3_tells_14 : decode cX3_tells 14 = .ok (.aload_n 0, 1) := by decide +kernel
theorem dX3_tells_15 : decode cX3_tells 15 = .ok (.getfield 31, 3) := by decide +kernel
theorem dX3_tells_18 : decode cX3_tells 18 = .ok (.if_icmp .ge 86, 3) := by decide +kernel
theorem dX3_tells_21 : decode cX3_tells 21 = .ok (.aload_n 0, 1) := by decide +kernel
theorem dX3_tells_22 : decode cX3_tells 22 = .ok (.getfield 9, 3) := by decide +kernel
theorem dX3_tells_25 : decode cX3_tells 25 = .ok (.iload 5, 2) := by decide +kernel
theorem dX3_tells_27 : decode cX3_tells 27 = .ok (.iaload, 1) := by decide +kernel
theorem dX3_tells_28 : decode cX3_tells 28 = .ok (.iload_n 1, 1) := by decide +kernel
theorem dX3_tells_29 : decode cX3_tells 29 = .ok (.if_icmp .ne 60, 3) := by decide +kernel
theorem dX3_tells_32 : decode cX3_tells 32 = .ok (.aload_n 0, 1) := by decide +kernel
theorem dX3_tells_33 : decode cX3_tells 33 = .ok (.getfield 15, 3) := by decide +kernel
theorem dX3_tells_36 : decode cX3_tells 36 = .ok (.iload 5, 2) := by decide +kernel
theorem dX3_tells_38 : decode cX3_tells 38 = .ok (.iaload, 1) := by decide +kernel
theorem dX3_tells_39 : decode cX3_tells 39 = .ok (.aload_n 0, 1) := by decide +kernel
theorem dX3_tells_40 : decode cX3_tells 40 = .ok (.getfield 18, 3) := by decide +kernel
theorem dX3_tells_43 : decode cX3_tells 43 = .ok (.iload 5, 2) := by decide +kernel
theorem dX3_tells_45 : decode cX3_tells 45 = .ok (.iaload, 1) := by decide +kernel
theorem dX3_tells_46 : decode cX3_tells 46 = .ok (.if_icmp .eq 25, 3) := by decide +kernel
theorem dX3_tells_49 : decode cX3_tells 49 = .ok (.aload_n 0, 1) := by decide +kernel
theorem dX3_tells_50 : decode cX3_tells 50 = .ok (.aload_n 0, 1) := by decide +kernel
theorem dX3_tells_51 : decode cX3_tells 51 = .ok (.getfield 15, 3) := by decide +kernel
theorem dX3_tells_54 : decode cX3_tells 54 = .ok (.iload 5, 2) := by decide +kernel
theorem dX3_tells_56 : decode cX3_tells 56 = .ok (.iaload, 1) := by decide +kernel
theorem dX3_tells_57 : decode cX3_tells 57 = .ok (.aload_n 0, 1) := by decide +kernel
theorem dX3_tells_58 : decode cX3_tells 58 = .ok (.getfield 18, 3) := by decide +kernel
theorem dX3_tells_61 : decode cX3_tells 61 = .ok (.iload 5, 2) := by decide +kernel
theorem dX3_tells_63 : decode cX3_tells 63 = .ok (.iaload, 1) := by decide +kernel
theorem dX3_tells_64 : decode cX3_tells 64 = .ok (.aload_n 2, 1) := by decide +kernel
theorem dX3_tells_65 : decode cX3_tells 65 = .ok (.invokevirtual 63, 3) := by decide +kernel
theorem dX3_tells_68 : decode cX3_tells 68 = .ok (.ifCond .eq 21, 3) := by decide +kernel
theorem dX3_tells_71 : decode cX3_tells 71 = .ok (.aload_n 0, 1) := by decide +kernel
theorem dX3_tells_72 : decode cX3_tells 72 = .ok (.iload 4, 2) := by decide +kernel
theorem dX3_tells_74 : decode cX3_tells 74 = .ok (.aload_n 0, 1) := by decide +kernel
theorem dX3_tells_75 : decode cX3_tells 75 = .ok (.getfield 15, 3) := by decide +kernel
theorem dX3_tells_78 : decode cX3_tells 78 = .ok (.iload 5, 2) := by decide +kernel
theorem dX3_tells_80 : decode cX3_tells 80 = .ok (.iaload, 1) := by decide +kernel
theorem dX3_tells_81 : decode cX3_tells 81 = .ok (.aload_n 2, 1) := by decide +kernel
theorem dX3_tells_82 : decode cX3_tells 82 = .ok (.invokevirtual 63, 3) := by decide +kernel
theorem dX3_tells_85 : decode cX3_tells 85 = .ok (.istore_n 3, 1) := by decide +kernel
theorem dX3_tells_86 : decode cX3_tells 86 = .ok (.goto 18, 3) := by decide +kernel
theorem dX3_tells_89 : decode cX3_tells 89 = .ok (.aload_n 0, 1) := by decide +kernel
theorem dX3_tells_90 : decode cX3_tells 90 = .ok (.getfield 18, 3) := by decide +kernel
theorem dX3_tells_93 : decode cX3_tells 93 = .ok (.iload 5, 2) := by decide +kernel
theorem dX3_tells_95 : decode cX3_tells 95 = .ok (.iaload, 1) := by decide +kernel
theorem dX3_tells_96 : decode cX3_tells 96 = .ok (.istore 4, 2) := by decide +kernel
theorem dX3_tells_98 : decode cX3_tells 98 = .ok (.iinc 5 1, 3) := by decide +kernel
theorem dX3_tells_101 : decode cX3_tells 101 = .ok (.goto (-89), 3) := by decide +kernel
theorem dX3_tells_104 : decode cX3_tells 104 = .ok (.iconst 0, 1) := by decide +kernel
theorem dX3_tells_105 : decode cX3_tells 105 = .ok (.iload_n 3, 1) := by decide +kernel
theorem dX3_tells_106 : decode cX3_tells 106 = .ok (.iload_n 1, 1) := by decide +kernel
theorem dX3_tells_107 : decode cX3_tells 107 = .ok (.sipush 130, 3) := by decide +kernel
theorem dX3_tells_110 : decode cX3_tells 110 = .ok (.if_icmp .ne 8, 3) := by decide +kernel
theorem dX3_tells_113 : decode cX3_tells 113 = .ok (.bipush 99, 2) := by decide +kernel
theorem dX3_tells_115 : decode cX3_tells 115 = .ok (.goto 6, 3) := by decide +kernel
theorem dX3_tells_118 : decode cX3_tells 118 = .ok (.sipush 1000, 3) := by decide +kernel
theorem dX3_tells_121 : decode cX3_tells 121 = .ok (.invokestatic 67, 3) := by decide +kernel
theorem dX3_tells_124 : decode cX3_tells 124 = .ok (.invokestatic 73, 3) := by decide +kernel
theorem dX3_tells_127 : decode cX3_tells 127 = .ok (.ireturn, 1) := by decide +kernel
theorem dX3_copyFrom_0 : decode cX3_copyFrom 0 = .ok (.aload_n 0, 1) := by decide +kernel
theorem dX3_copyFrom_1 : decode cX3_copyFrom 1 = .ok (.aload_n 1, 1) := by decide +kernel
theorem dX3_copyFrom_2 : decode cX3_copyFrom 2 = .ok (.getfield 31, 3) := by decide +kernel
theorem dX3_copyFrom_5 : decode cX3_copyFrom 5 = .ok (.putfield 31, 3) := by decide +kernel
theorem dX3_copyFrom_8 : decode cX3_copyFrom 8 = .ok (.aload_n 0, 1) := by decide +kernel
theorem dX3_copyFrom_9 : decode cX3_copyFrom 9 = .ok (.aload_n 1, 1) := by decide +kernel
theorem dX3_copyFrom_10 : decode cX3_copyFrom 10 = .ok (.getfield 27, 3) := by decide +kernel
theorem dX3_copyFrom_13 : decode cX3_copyFrom 13 = .ok (.putfield 27, 3) := by decide +kernel
theorem dX3_copyFrom_16 : decode cX3_copyFrom 16 = .ok (.aload_n 1, 1) := by decide +kernel
theorem dX3_copyFrom_17 : decode cX3_copyFrom 17 = .ok (.getfield 9, 3) := by decide +kernel
theorem dX3_copyFrom_20 : decode cX3_copyFrom 20 = .ok (.iconst 0, 1) := by decide +kernel
theorem dX3_copyFrom_21 : decode cX3_copyFrom 21 = .ok (.aload_n 0, 1) := by decide +kernel
theorem dX3_copyFrom_22 : decode cX3_copyFrom 22 = .ok (.getfield 9, 3) := by decide +kernel
theorem dX3_copyFrom_25 : decode cX3_copyFrom 25 = .ok (.iconst 0, 1) := by decide +kernel
theorem dX3_copyFrom_26 : decode cX3_copyFrom 26 = .ok (.bipush 16, 2) := by decide +kernel
theorem dX3_copyFrom_28 : decode cX3_copyFrom 28 = .ok (.invokestatic 76, 3) := by decide +kernel
theorem dX3_copyFrom_31 : decode cX3_copyFrom 31 = .ok (.aload_n 1, 1) := by decide +kernel
theorem dX3_copyFrom_32 : decode cX3_copyFrom 32 = .ok (.getfield 15, 3) := by decide +kernel
theorem dX3_copyFrom_35 : decode cX3_copyFrom 35 = .ok (.iconst 0, 1) := by decide +kernel
theorem dX3_copyFrom_36 : decode cX3_copyFrom 36 = .ok (.aload_n 0, 1) := by decide +kernel
theorem dX3_copyFrom_37 : decode cX3_copyFrom 37 = .ok (.getfield 15, 3) := by decide +kernel
theorem dX3_copyFrom_40 : decode cX3_copyFrom 40 = .ok (.iconst 0, 1) := by decide +kernel
theorem dX3_copyFrom_41 : decode cX3_copyFrom 41 = .ok (.bipush 16, 2) := by decide +kernel
theorem dX3_copyFrom_43 : decode cX3_copyFrom 43 = .ok (.invokestatic 76, 3) := by decide +kernel
theorem dX3_copyFrom_46 : decode cX3_copyFrom 46 = .ok (.aload_n 1, 1) := by decide +kernel
theorem dX3_copyFrom_47 : decode cX3_copyFrom 47 = .ok (.getfield 18, 3) := by decide +kernel
theorem dX3_copyFrom_50 : decode cX3_copyFrom 50 = .ok (.iconst 0, 1) := by decide +kernel
theorem dX3_copyFrom_51 : decode cX3_copyFrom 51 = .ok (.aload_n 0, 1) := by decide +kernel
theorem dX3_copyFrom_52 : decode cX3_copyFrom 52 = .ok (.getfield 18, 3) := by decide +kernel
theorem dX3_copyFrom_55 : decode cX3_copyFrom 55 = .ok (.iconst 0, 1) := by decide +kernel
theorem dX3_copyFrom_56 : decode cX3_copyFrom 56 = .ok (.bipush 16, 2) := by decide +kernel
theorem dX3_copyFrom_58 : decode cX3_copyFrom 58 = .ok (.invokestatic 76, 3) := by decide +kernel
theorem dX3_copyFrom_61 : decode cX3_copyFrom 61 = .ok (.aload_n 1, 1) := by decide +kernel
theorem dX3_copyFrom_62 : decode cX3_copyFrom 62 = .ok (.getfield 21, 3) := by decide +kernel
theorem dX3_copyFrom_65 : decode cX3_copyFrom 65 = .ok (.iconst 0, 1) := by decide +kernel
theorem dX3_copyFrom_66 : decode cX3_copyFrom 66 = .ok (.aload_n 0, 1) := by decide +kernel
theorem dX3_copyFrom_67 : decode cX3_copyFrom 67 = .ok (.getfield 21, 3) := by decide +kernel
theorem dX3_copyFrom_70 : decode cX3_copyFrom 70 = .ok (.iconst 0, 1) := by decide +kernel
theorem dX3_copyFrom_71 : decode cX3_copyFrom 71 = .ok (.sipush 400, 3) := by decide +kernel
theorem dX3_copyFrom_74 : decode cX3_copyFrom 74 = .ok (.invokestatic 76, 3) := by decide +kernel
theorem dX3_copyFrom_77 : decode cX3_copyFrom 77 = .ok (.return_, 1) := by decide +kernel
theorem dX3_readCondition_0 : decode cX3_readCondition 0 = .ok (.iconst 0, 1) := by decide +kernel
theorem dX3_readCondition_1 : decode cX3_readCondition 1 = .ok (.istore_n 3, 1) := by decide +kernel
theorem dX3_readCondition_2 : decode cX3_readCondition 2 = .ok (.aload_n 0, 1) := by decide +kernel
theorem dX3_readCondition_3 : decode cX3_readCondition 3 = .ok (.aload_n 1, 1) := by decide +kernel
theorem dX3_readCondition_4 : decode cX3_readCondition 4 = .ok (.iload_n 2, 1) := by decide +kernel
theorem dX3_readCondition_5 : decode cX3_readCondition 5 = .ok (.invokevirtual 82, 3) := by decide +kernel
theorem dX3_readCondition_8 : decode cX3_readCondition 8 = .ok (.istore 4, 2) := by decide +kernel
theorem dX3_readCondition_10 : decode cX3_readCondition 10 = .ok (.iconst 0, 1) := by decide +kernel
theorem dX3_readCondition_11 : decode cX3_readCondition 11 = .ok (.istore 5, 2) := by decide +kernel
theorem dX3_readCondition_13 : decode cX3_readCondition 13 = .ok (.iload 5, 2) := by decide +kernel
theorem dX3_readCondition_15 : decode cX3_readCondition 15 = .ok (.sipush 400, 3) := by decide +kernel
theorem dX3_readCondition_18 : decode cX3_readCondition 18 = .ok (.if_icmp .ge 89, 3) := by decide +kernel
theorem dX3_readCondition_21 : decode cX3_readCondition 21 = .ok (.iload 4, 2) := by decide +kernel
theorem dX3_readCondition_23 : decode cX3_readCondition 23 = .ok (.ifCond .eq 84, 3) := by decide +kernel
theorem dX3_readCondition_26 : decode cX3_readCondition 26 = .ok (.aload_n 1, 1) := by decide +kernel
theorem dX3_readCondition_27 : decode cX3_readCondition 27 = .ok (.invokevirtual 34, 3) := by decide +kernel
theorem dX3_readCondition_30 : decode cX3_readCondition 30 = .ok (.istore 6, 2) := by decide +kernel
theorem dX3_readCondition_32 : decode cX3_readCondition 32 = .ok (.iload 6, 2) := by decide +kernel
theorem dX3_readCondition_34 : decode cX3_readCondition 34 = .ok (.sipush 133, 3) := by decide +kernel
theorem dX3_readCondition_37 : decode cX3_readCondition 37 = .ok (.if_icmp .eq 14, 3) := by decide +kernel
theorem dX3_readCondition_40 : decode cX3_readCondition 40 = .ok (.iload_n 3, 1) := by decide +kernel
theorem dX3_readCondition_41 : decode cX3_readCondition 41 = .ok (.ifCond .eq 10, 3) := by decide +kernel
theorem dX3_readCondition_44 : decode cX3_readCondition 44 = .ok (.aload_n 0, 1) := by decide +kernel
theorem dX3_readCondition_45 : decode cX3_readCondition 45 = .ok (.sipush 10132, 3) := by decide +kernel
theorem dX3_readCondition_48 : decode cX3_readCondition 48 = .ok (.invokevirtual 85, 3) := by decide +kernel
theorem dX3_readCondition_51 : decode cX3_readCondition 51 = .ok (.iload 6, 2) := by decide +kernel
theorem dX3_readCondition_53 : decode cX3_readCondition 53 = .ok (.sipush 133, 3) := by decide +kernel
theorem dX3_readCondition_56 : decode cX3_readCondition 56 = .ok (.if_icmp .eq 13, 3) := by decide +kernel
theorem dX3_readCondition_59 : decode cX3_readCondition 59 = .ok (.iload 6, 2) := by decide +kernel
theorem dX3_readCondition_61 : decode cX3_readCondition 61 = .ok (.sipush 132, 3) := by decide +kernel
theorem dX3_readCondition_64 : decode cX3_readCondition 64 = .ok (.if_icmp .eq 5, 3) := by decide +kernel
theorem dX3_readCondition_67 : decode cX3_readCondition 67 = .ok (.iconst 1, 1) := by decide +kernel
theorem dX3_readCondition_68 : decode cX3_readCondition 68 = .ok (.ireturn, 1) := by decide +kernel
theorem dX3_readCondition_69 : decode cX3_readCondition 69 = .ok (.aload_n 1, 1) := by decide +kernel
theorem dX3_readCondition_70 : decode cX3_readCondition 70 = .ok (.invokevirtual 44, 3) := by decide +kernel
theorem dX3_readCondition_73 : decode cX3_readCondition 73 = .ok (.aload_n 0, 1) := by decide +kernel
theorem dX3_readCondition_74 : decode cX3_readCondition 74 = .ok (.aload_n 1, 1) := by decide +kernel
theorem dX3_readCondition_75 : decode cX3_readCondition 75 = .ok (.iload_n 2, 1) := by decide +kernel
theorem dX3_readCondition_76 : decode cX3_readCondition 76 = .ok (.invokevirtual 82, 3) := by decide +kernel
theorem dX3_readCondition_79 : decode cX3_readCondition 79 = .ok (.istore 4, 2) := by decide +kernel
theorem dX3_readCondition_81 : decode cX3_readCondition 81 = .ok (.iload 6, 2) := by decide +kernel
theorem dX3_readCondition_83 : decode cX3_readCondition 83 = .ok (.sipush 133, 3) := by decide +kernel
theorem dX3_readCondition_86 : decode cX3_readCondition 86 = .ok (.if_icmp .ne 13, 3) := by decide +kernel
theorem dX3_readCondition_89 : decode cX3_readCondition 89 = .ok (.aload_n 0, 1) := by decide +kernel
theorem dX3_readCondition_90 : decode cX3_readCondition 90 = .ok (.sipush 10133, 3) := by decide +kernel
theorem dX3_readCondition_93 : decode cX3_readCondition 93 = .ok (.invokevirtual 85, 3) := by decide +kernel
theorem dX3_readCondition_96 : decode cX3_readCondition 96 = .ok (.goto 5, 3) := by decide +kernel
theorem dX3_readCondition_99 : decode cX3_readCondition 99 = .ok (.iconst 1, 1) := by decide +kernel
theorem dX3_readCondition_100 : decode cX3_readCondition 100 = .ok (.istore_n 3, 1) := by decide +kernel
theorem dX3_readCondition_101 : decode cX3_readCondition 101 = .ok (.iinc 5 1, 3) := by decide +kernel
theorem dX3_readCondition_104 : decode cX3_readCondition 104 = .ok (.goto (-91), 3) := by decide +kernel
theorem dX3_readCondition_107 : decode cX3_readCondition 107 = .ok (.iconst 0, 1) := by decide +kernel
theorem dX3_readCondition_108 : decode cX3_readCondition 108 = .ok (.ireturn, 1) := by decide +kernel
theorem dX3_readSingle_0 : decode cX3_readSingle 0 = .ok (.aload_n 1, 1) := by decide +kernel
theorem dX3_readSingle_1 : decode cX3_readSingle 1 = .ok (.invokevirtual 34, 3) := by decide +kernel
theorem dX3_readSingle_4 : decode cX3_readSingle 4 = .ok (.istore_n 3, 1) := by decide +kernel
theorem dX3_readSingle_5 : decode cX3_readSingle 5 = .ok (.iload_n 3, 1) := by decide +kernel
theorem dX3_readSingle_6 : decode cX3_readSingle 6 = .ok (.sipush 134, 3) := by decide +kernel
theorem dX3_readSingle_9 : decode cX3_readSingle 9 = .ok (.if_icmp .eq 9, 3) := by decide +kernel
theorem dX3_readSingle_12 : decode cX3_readSingle 12 = .ok (.iload_n 3, 1) := by decide +kernel
theorem dX3_readSingle_13 : decode cX3_readSingle 13 = .ok (.bipush 40, 2) := by decide +kernel
theorem dX3_readSingle_15 : decode cX3_readSingle 15 = .ok (.if_icmp .ne 74, 3) := by decide +kernel
theorem dX3_readSingle_18 : decode cX3_readSingle 18 = .ok (.aload_n 1, 1) := by decide +kernel
theorem dX3_readSingle_19 : decode cX3_readSingle 19 = .ok (.iconst 1, 1) := by decide +kernel
theorem dX3_readSingle_20 : decode cX3_readSingle 20 = .ok (.iload_n 2, 1) := by decide +kernel
theorem dX3_readSingle_21 : decode cX3_readSingle 21 = .ok (.bipush 8, 2) := by decide +kernel
theorem dX3_readSingle_23 : decode cX3_readSingle 23 = .ok (.invokevirtual 40, 3) := by decide +kernel
theorem dX3_readSingle_26 : decode cX3_readSingle 26 = .ok (.ifCond .ne 5, 3) := by decide +kernel
theorem dX3_readSingle_29 : decode cX3_readSingle 29 = .ok (.iconst 0, 1) := by decide +kernel
theorem dX3_readSingle_30 : decode cX3_readSingle 30 = .ok (.ireturn, 1) := by decide +kernel
theorem dX3_readSingle_31 : decode cX3_readSingle 31 = .ok (.aload_n 1, 1) := by decide +kernel
theorem dX3_readSingle_32 : decode cX3_readSingle 32 = .ok (.invokevirtual 44, 3) := by decide +kernel
theorem dX3_readSingle_35 : decode cX3_readSingle 35 = .ok (.iload_n 3, 1) := by decide +kernel
theorem dX3_readSingle_36 : decode cX3_readSingle 36 = .ok (.bipush 40, 2) := by decide +kernel
theorem dX3_readSingle_38 : decode cX3_readSingle 38 = .ok (.if_icmp .ne 29, 3) := by decide +kernel
theorem dX3_readSingle_41 : decode cX3_readSingle 41 = .ok (.aload_n 0, 1) := by decide +kernel
theorem dX3_readSingle_42 : decode cX3_readSingle 42 = .ok (.aload_n 1, 1) := by decide +kernel
theorem dX3_readSingle_43 : decode cX3_readSingle 43 = .ok (.iload_n 2, 1) := by decide +kernel
theorem dX3_readSingle_44 : decode cX3_readSingle 44 = .ok (.iconst 1, 1) := by decide +kernel
theorem dX3_readSingle_45 : decode cX3_readSingle 45 = .ok (.iadd, 1) := by decide +kernel
theorem dX3_readSingle_46 : decode cX3_readSingle 46 = .ok (.invokevirtual 51, 3) := by decide +kernel
theorem dX3_readSingle_49 : decode cX3_readSingle 49 = .ok (.ifCond .eq 16, 3) := by decide +kernel
theorem dX3_readSingle_52 : decode cX3_readSingle 52 = .ok (.aload_n 1, 1) := by decide +kernel
theorem dX3_readSingle_53 : decode cX3_readSingle 53 = .ok (.bipush 41, 2) := by decide +kernel
theorem dX3_readSingle_55 : decode cX3_readSingle 55 = .ok (.invokevirtual 55, 3) := by decide +kernel
theorem dX3_readSingle_58 : decode cX3_readSingle 58 = .ok (.ifCond .eq 7, 3) := by decide +kernel
theorem dX3_readSingle_61 : decode cX3_readSingle 61 = .ok (.iconst 1, 1) := by decide +kernel
theorem dX3_readSingle_62 : decode cX3_readSingle 62 = .ok (.goto 4, 3) := by decide +kernel
theorem dX3_readSingle_65 : decode cX3_readSingle 65 = .ok (.iconst 0, 1) := by decide +kernel
theorem dX3_readSingle_66 : decode cX3_readSingle 66 = .ok (.ireturn, 1) := by decide +kernel
theorem dX3_readSingle_67 : decode cX3_readSingle 67 = .ok (.aload_n 0, 1) := by decide +kernel
theorem dX3_readSingle_68 : decode cX3_readSingle 68 = .ok (.aload_n 1, 1) := by decide +kernel
theorem dX3_readSingle_69 : decode cX3_readSingle 69 = .ok (.iload_n 2, 1) := by decide +kernel
theorem dX3_readSingle_70 : decode cX3_readSingle 70 = .ok (.iconst 1, 1) := by decide +kernel
theorem dX3_readSingle_71 : decode cX3_readSingle 71 = .ok (.iadd, 1) := by decide +kernel
theorem dX3_readSingle_72 : decode cX3_readSingle 72 = .ok (.invokevirtual 82, 3) := by decide +kernel
theorem dX3_readSingle_75 : decode cX3_readSingle 75 = .ok (.ifCond .ne 5, 3) := by decide +kernel
theorem dX3_readSingle_78 : decode cX3_readSingle 78 = .ok (.iconst 0, 1) := by decide +kernel
theorem dX3_readSingle_79 : decode cX3_readSingle 79 = .ok (.ireturn, 1) := by decide +kernel
theorem dX3_readSingle_80 : decode cX3_readSingle 80 = .ok (.aload_n 0, 1) := by decide +kernel
theorem dX3_readSingle_81 : decode cX3_readSingle 81 = .ok (.sipush 10134, 3) := by decide +kernel
theorem dX3_readSingle_84 : decode cX3_readSingle 84 = .ok (.invokevirtual 85, 3) := by decide +kernel
theorem dX3_readSingle_87 : decode cX3_readSingle 87 = .ok (.iconst 1, 1) := by decide +kernel
theorem dX3_readSingle_88 : decode cX3_readSingle 88 = .ok (.ireturn, 1) := by decide +kernel
theorem dX3_readSingle_89 : decode cX3_readSingle 89 = .ok (.aload_n 0, 1) := by decide +kernel
theorem dX3_readSingle_90 : decode cX3_readSingle 90 = .ok (.aload_n 1, 1) := by decide +kernel
theorem dX3_readSingle_91 : decode cX3_readSingle 91 = .ok (.invokevirtual 47, 3) := by decide +kernel
theorem dX3_readSingle_94 : decode cX3_readSingle 94 = .ok (.ifCond .ne 5, 3) := by decide +kernel
theorem dX3_readSingle_97 : decode cX3_readSingle 97 = .ok (.iconst 0, 1) := by decide +kernel
theorem dX3_readSingle_98 : decode cX3_readSingle 98 = .ok (.ireturn, 1) := by decide +kernel
theorem dX3_readSingle_99 : decode cX3_readSingle 99 = .ok (.aload_n 1, 1) := by decide +kernel
theorem dX3_readSingle_100 : decode cX3_readSingle 100 = .ok (.invokevirtual 34, 3) := by decide +kernel
theorem dX3_readSingle_103 : decode cX3_readSingle 103 = .ok (.istore 4, 2) := by decide +kernel
theorem dX3_readSingle_105 : decode cX3_readSingle 105 = .ok (.iload 4, 2) := by decide +kernel
theorem dX3_readSingle_107 : decode cX3_readSingle 107 = .ok (.bipush 60, 2) := by decide +kernel
theorem dX3_readSingle_109 : decode cX3_readSingle 109 = .ok (.if_icmp .eq 23, 3) := by decide +kernel
theorem dX3_readSingle_112 : decode cX3_readSingle 112 = .ok (.iload 4, 2) := by decide +kernel
theorem dX3_readSingle_114 : decode cX3_readSingle 114 = .ok (.bipush 61, 2) := by decide +kernel
theorem dX3_readSingle_116 : decode cX3_readSingle 116 = .ok (.if_icmp .eq 16, 3) := by decide +kernel
theorem dX3_readSingle_119 : decode cX3_readSingle 119 = .ok (.iload 4, 2) := by decide +kernel
theorem dX3_readSingle_121 : decode cX3_readSingle 121 = .ok (.bipush 62, 2) := by decide +kernel
theorem dX3_readSingle_123 : decode cX3_readSingle 123 = .ok (.if_icmp .eq 9, 3) := by decide +kernel
theorem dX3_readSingle_126 : decode cX3_readSingle 126 = .ok (.aload_n 1, 1) := by decide +kernel
theorem dX3_readSingle_127 : decode cX3_readSingle 127 = .ok (.iconst 1, 1) := by decide +kernel
theorem dX3_readSingle_128 : decode cX3_readSingle 128 = .ok (.invokevirtual 89, 3) := by decide +kernel
theorem dX3_readSingle_131 : decode cX3_readSingle 131 = .ok (.ireturn, 1) := by decide +kernel
theorem dX3_readSingle_132 : decode cX3_readSingle 132 = .ok (.aload_n 1, 1) := by decide +kernel
theorem dX3_readSingle_133 : decode cX3_readSingle 133 = .ok (.invokevirtual 44, 3) := by decide +kernel
theorem dX3_readSingle_136 : decode cX3_readSingle 136 = .ok (.aload_n 0, 1) := by decide +kernel
theorem dX3_readSingle_137 : decode cX3_readSingle 137 = .ok (.aload_n 1, 1) := by decide +kernel
theorem dX3_readSingle_138 : decode cX3_readSingle 138 = .ok (.invokevirtual 47, 3) := by decide +kernel
theorem dX3_readSingle_141 : decode cX3_readSingle 141 = .ok (.ifCond .ne 5, 3) := by decide +kernel
theorem dX3_readSingle_144 : decode cX3_readSingle 144 = .ok (.iconst 0, 1) := by decide +kernel
theorem dX3_readSingle_145 : decode cX3_readSingle 145 = .ok (.ireturn, 1) := by decide +kernel
theorem dX3_readSingle_146 : decode cX3_readSingle 146 = .ok (.aload_n 0, 1) := by decide +kernel
theorem dX3_readSingle_147 : decode cX3_readSingle 147 = .ok (.sipush 10000, 3) := by decide +kernel
theorem dX3_readSingle_150 : decode cX3_readSingle 150 = .ok (.iload 4, 2) := by decide +kernel
theorem dX3_readSingle_152 : decode cX3_readSingle 152 = .ok (.iadd, 1) := by decide +kernel
theorem dX3_readSingle_153 : decode cX3_readSingle 153 = .ok (.invokevirtual 85, 3) := by decide +kernel
theorem dX3_readSingle_156 : decode cX3_readSingle 156 = .ok (.iconst 1, 1) := by decide +kernel
theorem dX3_readSingle_157 : decode cX3_readSingle 157 = .ok (.ireturn, 1) := by decide +kernel
theorem dX3_readSum_0 : decode cX3_readSum 0 = .ok (.iconst (-1), 1) := by decide +kernel
theorem dX3_readSum_1 : decode cX3_readSum 1 = .ok (.istore_n 2, 1) := by decide +kernel
theorem dX3_readSum_2 : decode cX3_readSum 2 = .ok (.aload_n 0, 1) := by decide +kernel
theorem dX3_readSum_3 : decode cX3_readSum 3 = .ok (.aload_n 1, 1) := by decide +kernel
theorem dX3_readSum_4 : decode cX3_readSum 4 = .ok (.iconst 0, 1) := by decide +kernel
theorem dX3_readSum_5 : decode cX3_readSum 5 = .ok (.invokevirtual 92, 3) := by decide +kernel
theorem dX3_readSum_8 : decode cX3_readSum 8 = .ok (.istore_n 3, 1) := by decide +kernel
theorem dX3_readSum_9 : decode cX3_readSum 9 = .ok (.iconst 0, 1) := by decide +kernel
theorem dX3_readSum_10 : decode cX3_readSum 10 = .ok (.istore 4, 2) := by decide +kernel
theorem dX3_readSum_12 : decode cX3_readSum 12 = .ok (.iload 4, 2) := by decide +kernel
theorem dX3_readSum_14 : decode cX3_readSum 14 = .ok (.sipush 400, 3) := by decide +kernel
theorem dX3_readSum_17 : decode cX3_readSum 17 = .ok (.if_icmp .ge 123, 3) := by decide +kernel
theorem dX3_readSum_20 : decode cX3_readSum 20 = .ok (.iload_n 3, 1) := by decide +kernel
theorem dX3_readSum_21 : decode cX3_readSum 21 = .ok (.ifCond .eq 119, 3) := by decide +kernel
theorem dX3_readSum_24 : decode cX3_readSum 24 = .ok (.aload_n 1, 1) := by decide +kernel
theorem dX3_readSum_25 : decode cX3_readSum 25 = .ok (.invokevirtual 34, 3) := by decide +kernel
theorem dX3_readSum_28 : decode cX3_readSum 28 = .ok (.istore 5, 2) := by decide +kernel
theorem dX3_readSum_30 : decode cX3_readSum 30 = .ok (.iload 5, 2) := by decide +kernel
theorem dX3_readSum_32 : decode cX3_readSum 32 = .ok (.bipush 42, 2) := by decide +kernel
theorem dX3_readSum_34 : decode cX3_readSum 34 = .ok (.if_icmp .eq 10, 3) := by decide +kernel
theorem dX3_readSum_37 : decode cX3_readSum 37 = .ok (.iload 5, 2) := by decide +kernel
theorem dX3_readSum_39 : decode cX3_readSum 39 = .ok (.bipush 47, 2) := by decide +kernel
theorem dX3_readSum_41 : decode cX3_readSum 41 = .ok (.if_icmp .ne 7, 3) := by decide +kernel
theorem dX3_readSum_44 : decode cX3_readSum 44 = .ok (.iconst 1, 1) := by decide +kernel
theorem dX3_readSum_45 : decode cX3_readSum 45 = .ok (.goto 4, 3) := by decide +kernel
theorem dX3_readSum_48 : decode cX3_readSum 48 = .ok (.iconst 0, 1) := by decide +kernel
theorem dX3_readSum_49 : decode cX3_readSum 49 = .ok (.istore 6, 2) := by decide +kernel
theorem dX3_readSum_51 : decode cX3_readSum 51 = .ok (.iload 6, 2) := by decide +kernel
theorem dX3_readSum_53 : decode cX3_readSum 53 = .ok (.ifCond .ne 17, 3) := by decide +kernel
theorem dX3_readSum_56 : decode cX3_readSum 56 = .ok (.iload_n 2, 1) := by decide +kernel
theorem dX3_readSum_57 : decode cX3_readSum 57 = .ok (.iconst (-1), 1) := by decide +kernel
theorem dX3_readSum_58 : decode cX3_readSum 58 = .ok (.if_icmp .eq 12, 3) := by decide +kernel
theorem dX3_readSum_61 : decode cX3_readSum 61 = .ok (.aload_n 0, 1) := by decide +kernel
theorem dX3_readSum_62 : decode cX3_readSum 62 = .ok (.sipush 10000, 3) := by decide +kernel
theorem dX3_readSum_65 : decode cX3_readSum 65 = .ok (.iload_n 2, 1) := by decide +kernel
theorem dX3_readSum_66 : decode cX3_readSum 66 = .ok (.iadd, 1) := by decide +kernel
theorem dX3_readSum_67 : decode cX3_readSum 67 = .ok (.invokevirtual 85, 3) := by decide +kernel
theorem dX3_readSum_70 : decode cX3_readSum 70 = .ok (.iload 6, 2) := by decide +kernel
theorem dX3_readSum_72 : decode cX3_readSum 72 = .ok (.ifCond .ne 19, 3) := by decide +kernel
theorem dX3_readSum_75 : decode cX3_readSum 75 = .ok (.iload 5, 2) := by decide +kernel
theorem dX3_readSum_77 : decode cX3_readSum 77 = .ok (.bipush 43, 2) := by decide +kernel
theorem dX3_readSum_79 : decode cX3_readSum 79 = .ok (.if_icmp .eq 12, 3) := by decide +kernel
theorem dX3_readSum_82 : decode cX3_readSum 82 = .ok (.iload 5, 2) := by decide +kernel
theorem dX3_readSum_84 : decode cX3_readSum 84 = .ok (.bipush 45, 2) := by decide +kernel
theorem dX3_readSum_86 : decode cX3_readSum 86 = .ok (.if_icmp .eq 5, 3) := by decide +kernel
theorem dX3_readSum_89 : decode cX3_readSum 89 = .ok (.iconst 1, 1) := by decide +kernel
theorem dX3_readSum_90 : decode cX3_readSum 90 = .ok (.ireturn, 1) := by decide +kernel
theorem dX3_readSum_91 : decode cX3_readSum 91 = .ok (.aload_n 1, 1) := by decide +kernel
theorem dX3_readSum_92 : decode cX3_readSum 92 = .ok (.invokevirtual 44, 3) := by decide +kernel
theorem dX3_readSum_95 : decode cX3_readSum 95 = .ok (.aload_n 0, 1) := by decide +kernel
theorem dX3_readSum_96 : decode cX3_readSum 96 = .ok (.aload_n 1, 1) := by decide +kernel
theorem dX3_readSum_97 : decode cX3_readSum 97 = .ok (.iload 5, 2) := by decide +kernel
theorem dX3_readSum_99 : decode cX3_readSum 99 = .ok (.bipush 47, 2) := by decide +kernel
theorem dX3_readSum_101 : decode cX3_readSum 101 = .ok (.if_icmp .ne 7, 3) := by decide +kernel
theorem dX3_readSum_104 : decode cX3_readSum 104 = .ok (.iconst 1, 1) := by decide +kernel
theorem dX3_readSum_105 : decode cX3_readSum 105 = .ok (.goto 4, 3) := by decide +kernel
theorem dX3_readSum_108 : decode cX3_readSum 108 = .ok (.iconst 0, 1) := by decide +kernel
theorem dX3_readSum_109 : decode cX3_readSum 109 = .ok (.invokevirtual 92, 3) := by decide +kernel
theorem dX3_readSum_112 : decode cX3_readSum 112 = .ok (.istore_n 3, 1) := by decide +kernel
theorem dX3_readSum_113 : decode cX3_readSum 113 = .ok (.iload 6, 2) := by decide +kernel
theorem dX3_readSum_115 : decode cX3_readSum 115 = .ok (.ifCond .eq 16, 3) := by decide +kernel
theorem dX3_readSum_118 : decode cX3_readSum 118 = .ok (.aload_n 0, 1) := by decide +kernel
theorem dX3_readSum_119 : decode cX3_readSum 119 = .ok (.sipush 10000, 3) := by decide +kernel
theorem dX3_readSum_122 : decode cX3_readSum 122 = .ok (.iload 5, 2) := by decide +kernel
theorem dX3_readSum_124 : decode cX3_readSum 124 = .ok (.iadd, 1) := by decide +kernel
theorem dX3_readSum_125 : decode cX3_readSum 125 = .ok (.invokevirtual 85, 3) := by decide +kernel
theorem dX3_readSum_128 : decode cX3_readSum 128 = .ok (.goto 6, 3) := by decide +kernel
theorem dX3_readSum_131 : decode cX3_readSum 131 = .ok (.iload 5, 2) := by decide +kernel
theorem dX3_readSum_133 : decode cX3_readSum 133 = .ok (.istore_n 2, 1) := by decide +kernel
theorem dX3_readSum_134 : decode cX3_readSum 134 = .ok (.iinc 4 1, 3) := by decide +kernel
theorem dX3_readSum_137 : decode cX3_readSum 137 = .ok (.goto (-125), 3) := by decide +kernel
theorem dX3_readSum_140 : decode cX3_readSum 140 = .ok (.iconst 0, 1) := by decide +kernel
theorem dX3_readSum_141 : decode cX3_readSum 141 = .ok (.ireturn, 1) := by decide +kernel
theorem dX3_readUnit_0 : decode cX3_readUnit 0 = .ok (.aload_n 1, 1) := by decide +kernel
theorem dX3_readUnit_1 : decode cX3_readUnit 1 = .ok (.invokevirtual 34, 3) := by decide +kernel
theorem dX3_readUnit_4 : decode cX3_readUnit 4 = .ok (.istore_n 3, 1) := by decide +kernel
theorem dX3_readUnit_5 : decode cX3_readUnit 5 = .ok (.iload_n 2, 1) := by decide +kernel
theorem dX3_readUnit_6 : decode cX3_readUnit 6 = .ok (.ifCond .ne 32, 3) := by decide +kernel
theorem dX3_readUnit_9 : decode cX3_readUnit 9 = .ok (.iload_n 3, 1) := by decide +kernel
theorem dX3_readUnit_10 : decode cX3_readUnit 10 = .ok (.sipush 135, 3) := by decide +kernel
theorem dX3_readUnit_13 : decode cX3_readUnit 13 = .ok (.if_icmp .lt 25, 3) := by decide +kernel
theorem dX3_readUnit_16 : decode cX3_readUnit 16 = .ok (.iload_n 3, 1) := by decide +kernel
theorem dX3_readUnit_17 : decode cX3_readUnit 17 = .ok (.sipush 144, 3) := by decide +kernel
theorem dX3_readUnit_20 : decode cX3_readUnit 20 = .ok (.if_icmp .gt 18, 3) := by decide +kernel
theorem dX3_readUnit_23 : decode cX3_readUnit 23 = .ok (.aload_n 1, 1) := by decide +kernel
theorem dX3_readUnit_24 : decode cX3_readUnit 24 = .ok (.invokevirtual 44, 3) := by decide +kernel
theorem dX3_readUnit_27 : decode cX3_readUnit 27 = .ok (.aload_n 0, 1) := by decide +kernel
theorem dX3_readUnit_28 : decode cX3_readUnit 28 = .ok (.sipush 10000, 3) := by decide +kernel
theorem dX3_readUnit_31 : decode cX3_readUnit 31 = .ok (.iload_n 3, 1) := by decide +kernel
theorem dX3_readUnit_32 : decode cX3_readUnit 32 = .ok (.iadd, 1) := by decide +kernel
theorem dX3_readUnit_33 : decode cX3_readUnit 33 = .ok (.invokevirtual 85, 3) := by decide +kernel
theorem dX3_readUnit_36 : decode cX3_readUnit 36 = .ok (.iconst 1, 1) := by decide +kernel
theorem dX3_readUnit_37 : decode cX3_readUnit 37 = .ok (.ireturn, 1) := by decide +kernel
theorem dX3_readUnit_38 : decode cX3_readUnit 38 = .ok (.aload_n 1, 1) := by decide +kernel
theorem dX3_readUnit_39 : decode cX3_readUnit 39 = .ok (.iload_n 2, 1) := by decide +kernel
theorem dX3_readUnit_40 : decode cX3_readUnit 40 = .ok (.ifCond .eq 7, 3) := by decide +kernel
theorem dX3_readUnit_43 : decode cX3_readUnit 43 = .ok (.iconst 1, 1) := by decide +kernel
theorem dX3_readUnit_44 : decode cX3_readUnit 44 = .ok (.goto 4, 3) := by decide +kernel
theorem dX3_readUnit_47 : decode cX3_readUnit 47 = .ok (.iconst 0, 1) := by decide +kernel
theorem dX3_readUnit_48 : decode cX3_readUnit 48 = .ok (.sipush 9999, 3) := by decide +kernel
theorem dX3_readUnit_51 : decode cX3_readUnit 51 = .ok (.invokevirtual 96, 3) := by decide +kernel
theorem dX3_readUnit_54 : decode cX3_readUnit 54 = .ok (.istore 4, 2) := by decide +kernel
theorem dX3_readUnit_56 : decode cX3_readUnit 56 = .ok (.aload_n 0, 1) := by decide +kernel
theorem dX3_readUnit_57 : decode cX3_readUnit 57 = .ok (.iload 4, 2) := by decide +kernel
theorem dX3_readUnit_59 : decode cX3_readUnit 59 = .ok (.invokevirtual 85, 3) := by decide +kernel
theorem dX3_readUnit_62 : decode cX3_readUnit 62 = .ok (.iload 4, 2) := by decide +kernel
theorem dX3_readUnit_64 : decode cX3_readUnit 64 = .ok (.iconst (-1), 1) := by decide +kernel
theorem dX3_readUnit_65 : decode cX3_readUnit 65 = .ok (.if_icmp .eq 7, 3) := by decide +kernel
theorem dX3_readUnit_68 : decode cX3_readUnit 68 = .ok (.iconst 1, 1) := by decide +kernel
theorem dX3_readUnit_69 : decode cX3_readUnit 69 = .ok (.goto 4, 3) := by decide +kernel
theorem dX3_readUnit_72 : decode cX3_readUnit 72 = .ok (.iconst 0, 1) := by decide +kernel
theorem dX3_readUnit_73 : decode cX3_readUnit 73 = .ok (.ireturn, 1) := by decide +kernel
theorem dX3_emit_0 : decode cX3_emit 0 = .ok (.aload_n 0, 1) := by decide +kernel
theorem dX3_emit_1 : decode cX3_emit 1 = .ok (.getfield 27, 3) := by decide +kernel
theorem dX3_emit_4 : decode cX3_emit 4 = .ok (.sipush 400, 3) := by decide +kernel
theorem dX3_emit_7 : decode cX3_emit 7 = .ok (.if_icmp .ge 23, 3) := by decide +kernel
theorem dX3_emit_10 : decode cX3_emit 10 = .ok (.aload_n 0, 1) := by decide +kernel
theorem dX3_emit_11 : decode cX3_emit 11 = .ok (.getfield 21, 3) := by decide +kernel
theorem dX3_emit_14 : decode cX3_emit 14 = .ok (.aload_n 0, 1) := by decide +kernel
theorem dX3_emit_15 : decode cX3_emit 15 = .ok (.getfield 27, 3) := by decide +kernel
theorem dX3_emit_18 : decode cX3_emit 18 = .ok (.iload_n 1, 1) := by decide +kernel
theorem dX3_emit_19 : decode cX3_emit 19 = .ok (.iastore, 1) := by decide +kernel
theorem dX3_emit_20 : decode cX3_emit 20 = .ok (.aload_n 0, 1) := by decide +kernel
theorem dX3_emit_21 : decode cX3_emit 21 = .ok (.dup, 1) := by decide +kernel
theorem dX3_emit_22 : decode cX3_emit 22 = .ok (.getfield 27, 3) := by decide +kernel
theorem dX3_emit_25 : decode cX3_emit 25 = .ok (.iconst 1, 1) := by decide +kernel
theorem dX3_emit_26 : decode cX3_emit 26 = .ok (.iadd, 1) := by decide +kernel
theorem dX3_emit_27 : decode cX3_emit 27 = .ok (.putfield 27, 3) := by decide +kernel
theorem dX3_emit_30 : decode cX3_emit 30 = .ok (.return_, 1) := by decide +kernel
theorem dX3_without_0 : decode cX3_without 0 = .ok (.iload_n 0, 1) := by decide +kernel
theorem dX3_without_1 : decode cX3_without 1 = .ok (.lookupswitch 52 #[(128, 27), (129, 43)], 27) := by decide +kernel
theorem dX3_without_28 : decode cX3_without 28 = .ok (.sipush 300, 3) := by decide +kernel
theorem dX3_without_31 : decode cX3_without 31 = .ok (.aload_n 1, 1) := by decide +kernel
theorem dX3_without_32 : decode cX3_without 32 = .ok (.bipush 6, 2) := by decide +kernel
theorem dX3_without_34 : decode cX3_without 34 = .ok (.iaload, 1) := by decide +kernel
theorem dX3_without_35 : decode cX3_without 35 = .ok (.imul, 1) := by decide +kernel
theorem dX3_without_36 : decode cX3_without 36 = .ok (.bipush 20, 2) := by decide +kernel
theorem dX3_without_38 : decode cX3_without 38 = .ok (.aload_n 1, 1) := by decide +kernel
theorem dX3_without_39 : decode cX3_without 39 = .ok (.iconst 0, 1) := by decide +kernel
theorem dX3_without_40 : decode cX3_without 40 = .ok (.iaload, 1) := by decide +kernel
theorem dX3_without_41 : decode cX3_without 41 = .ok (.imul, 1) := by decide +kernel
theorem dX3_without_42 : decode cX3_without 42 = .ok (.iadd, 1) := by decide +kernel
theorem dX3_without_43 : decode cX3_without 43 = .ok (.ireturn, 1) := by decide +kernel
theorem dX3_without_44 : decode cX3_without 44 = .ok (.sipush 200, 3) := by decide +kernel
theorem dX3_without_47 : decode cX3_without 47 = .ok (.aload_n 1, 1) := by decide +kernel
theorem dX3_without_48 : decode cX3_without 48 = .ok (.bipush 8, 2) := by decide +kernel
theorem dX3_without_50 : decode cX3_without 50 = .ok (.iaload, 1) := by decide +kernel
theorem dX3_without_51 : decode cX3_without 51 = .ok (.imul, 1) := by decide +kernel
theorem dX3_without_52 : decode cX3_without 52 = .ok (.ireturn, 1) := by decide +kernel
theorem dX3_without_53 : decode cX3_without 53 = .ok (.bipush 10, 2) := by decide +kernel
theorem dX3_without_55 : decode cX3_without 55 = .ok (.aload_n 1, 1) := by decide +kernel
theorem dX3_without_56 : decode cX3_without 56 = .ok (.iconst 1, 1) := by decide +kernel
theorem dX3_without_57 : decode cX3_without 57 = .ok (.iaload, 1) := by decide +kernel
theorem dX3_without_58 : decode cX3_without 58 = .ok (.isub, 1) := by decide +kernel
theorem dX3_without_59 : decode cX3_without 59 = .ok (.ireturn, 1) := by decide +kernel
theorem dX3_run_0 : decode cX3_run 0 = .ok (.iconst 0, 1) := by decide +kernel
theorem dX3_run_1 : decode cX3_run 1 = .ok (.istore 4, 2) := by decide +kernel
theorem dX3_run_3 : decode cX3_run 3 = .ok (.iload_n 1, 1) := by decide +kernel
theorem dX3_run_4 : decode cX3_run 4 = .ok (.istore 5, 2) := by decide +kernel
theorem dX3_run_6 : decode cX3_run 6 = .ok (.iload 5, 2) := by decide +kernel
theorem dX3_run_8 : decode cX3_run 8 = .ok (.iload_n 2, 1) := by decide +kernel
theorem dX3_run_9 : decode cX3_run 9 = .ok (.if_icmp .ge 166, 3) := by decide +kernel
theorem dX3_run_12 : decode cX3_run 12 = .ok (.iload 4, 2) := by decide +kernel
theorem dX3_run_14 : decode cX3_run 14 = .ok (.bipush 64, 2) := by decide +kernel
theorem dX3_run_16 : decode cX3_run 16 = .ok (.if_icmp .ge 159, 3) := by decide +kernel
theorem dX3_run_19 : decode cX3_run 19 = .ok (.aload_n 0, 1) := by decide +kernel
theorem dX3_run_20 : decode cX3_run 20 = .ok (.getfield 21, 3) := by decide +kernel
theorem dX3_run_23 : decode cX3_run 23 = .ok (.iload 5, 2) := by decide +kernel
theorem dX3_run_25 : decode cX3_run 25 = .ok (.iaload, 1) := by decide +kernel
theorem dX3_run_26 : decode cX3_run 26 = .ok (.sipush 10000, 3) := by decide +kernel
theorem dX3_run_29 : decode cX3_run 29 = .ok (.isub, 1) := by decide +kernel
theorem dX3_run_30 : decode cX3_run 30 = .ok (.istore 6, 2) := by decide +kernel
theorem dX3_run_32 : decode cX3_run 32 = .ok (.iload 6, 2) := by decide +kernel
theorem dX3_run_34 : decode cX3_run 34 = .ok (.ifCond .ge 23, 3) := by decide +kernel
theorem dX3_run_37 : decode cX3_run 37 = .ok (.aload_n 0, 1) := by decide +kernel
theorem dX3_run_38 : decode cX3_run 38 = .ok (.getfield 24, 3) := by decide +kernel
theorem dX3_run_41 : decode cX3_run 41 = .ok (.iload 4, 2) := by decide +kernel
theorem dX3_run_43 : decode cX3_run 43 = .ok (.aload_n 0, 1) := by decide +kernel
theorem dX3_run_44 : decode cX3_run 44 = .ok (.getfield 21, 3) := by decide +kernel
theorem dX3_run_47 : decode cX3_run 47 = .ok (.iload 5, 2) := by decide +kernel
theorem dX3_run_49 : decode cX3_run 49 = .ok (.iaload, 1) := by decide +kernel
theorem dX3_run_50 : decode cX3_run 50 = .ok (.iastore, 1) := by decide +kernel
theorem dX3_run_51 : decode cX3_run 51 = .ok (.iinc 4 1, 3) := by decide +kernel
theorem dX3_run_54 : decode cX3_run 54 = .ok (.goto 115, 3) := by decide +kernel
theorem dX3_run_57 : decode cX3_run 57 = .ok (.iload 6, 2) := by decide +kernel
theorem dX3_run_59 : decode cX3_run 59 = .ok (.sipush 135, 3) := by decide +kernel
theorem dX3_run_62 : decode cX3_run 62 = .ok (.if_icmp .lt 32, 3) := by decide +kernel
theorem dX3_run_65 : decode cX3_run 65 = .ok (.iload 6, 2) := by decide +kernel
theorem dX3_run_67 : decode cX3_run 67 = .ok (.sipush 144, 3) := by decide +kernel
theorem dX3_run_70 : decode cX3_run 70 = .ok (.if_icmp .gt 24, 3) := by decide +kernel
theorem dX3_run_73 : decode cX3_run 73 = .ok (.aload_n 0, 1) := by decide +kernel
theorem dX3_run_74 : decode cX3_run 74 = .ok (.getfield 24, 3) := by decide +kernel
theorem dX3_run_77 : decode cX3_run 77 = .ok (.iload 4, 2) := by decide +kernel
theorem dX3_run_79 : decode cX3_run 79 = .ok (.aload_n 3, 1) := by decide +kernel
theorem dX3_run_80 : decode cX3_run 80 = .ok (.iload 6, 2) := by decide +kernel
theorem dX3_run_82 : decode cX3_run 82 = .ok (.sipush 135, 3) := by decide +kernel
theorem dX3_run_85 : decode cX3_run 85 = .ok (.isub, 1) := by decide +kernel
theorem dX3_run_86 : decode cX3_run 86 = .ok (.iaload, 1) := by decide +kernel
theorem dX3_run_87 : decode cX3_run 87 = .ok (.iastore, 1) := by decide +kernel
theorem dX3_run_88 : decode cX3_run 88 = .ok (.iinc 4 1, 3) := by decide +kernel
theorem dX3_run_91 : decode cX3_run 91 = .ok (.goto 78, 3) := by decide +kernel
theorem dX3_run_94 : decode cX3_run 94 = .ok (.iload 6, 2) := by decide +kernel
theorem dX3_run_96 : decode cX3_run 96 = .ok (.sipush 134, 3) := by decide +kernel
theorem dX3_run_99 : decode cX3_run 99 = .ok (.if_icmp .ne 31, 3) := by decide +kernel
theorem dX3_run_102 : decode cX3_run 102 = .ok (.iload 4, 2) := by decide +kernel
theorem dX3_run_104 : decode cX3_run 104 = .ok (.ifCond .le 26, 3) := by decide +kernel
theorem dX3_run_107 : decode cX3_run 107 = .ok (.aload_n 0, 1) := by decide +kernel
theorem dX3_run_108 : decode cX3_run 108 = .ok (.getfield 24, 3) := by decide +kernel
theorem dX3_run_111 : decode cX3_run 111 = .ok (.iload 4, 2) := by decide +kernel
theorem dX3_run_113 : decode cX3_run 113 = .ok (.iconst 1, 1) := by decide +kernel
theorem dX3_run_114 : decode cX3_run 114 = .ok (.isub, 1) := by decide +kernel
theorem dX3_run_115 : decode cX3_run 115 = .ok (.iconst 1, 1) := by decide +kernel
theorem dX3_run_116 : decode cX3_run 116 = .ok (.aload_n 0, 1) := by decide +kernel
theorem dX3_run_117 : decode cX3_run 117 = .ok (.getfield 24, 3) := by decide +kernel
theorem dX3_run_120 : decode cX3_run 120 = .ok (.iload 4, 2) := by decide +kernel
theorem dX3_run_122 : decode cX3_run 122 = .ok (.iconst 1, 1) := by decide +kernel
theorem dX3_run_123 : decode cX3_run 123 = .ok (.isub, 1) := by decide +kernel
theorem dX3_run_124 : decode cX3_run 124 = .ok (.iaload, 1) := by decide +kernel
theorem dX3_run_125 : decode cX3_run 125 = .ok (.isub, 1) := by decide +kernel
theorem dX3_run_126 : decode cX3_run 126 = .ok (.iastore, 1) := by decide +kernel
theorem dX3_run_127 : decode cX3_run 127 = .ok (.goto 42, 3) := by decide +kernel
theorem dX3_run_130 : decode cX3_run 130 = .ok (.iload 4, 2) := by decide +kernel
theorem dX3_run_132 : decode cX3_run 132 = .ok (.iconst 1, 1) := by decide +kernel
theorem dX3_run_133 : decode cX3_run 133 = .ok (.if_icmp .le 36, 3) := by decide +kernel
theorem dX3_run_136 : decode cX3_run 136 = .ok (.iinc 4 (-1), 3) := by decide +kernel
theorem dX3_run_139 : decode cX3_run 139 = .ok (.aload_n 0, 1) := by decide +kernel
theorem dX3_run_140 : decode cX3_run 140 = .ok (.getfield 24, 3) := by decide +kernel
theorem dX3_run_143 : decode cX3_run 143 = .ok (.iload 4, 2) := by decide +kernel
theorem dX3_run_145 : decode cX3_run 145 = .ok (.iconst 1, 1) := by decide +kernel
theorem dX3_run_146 : decode cX3_run 146 = .ok (.isub, 1) := by decide +kernel
theorem dX3_run_147 : decode cX3_run 147 = .ok (.iload 6, 2) := by decide +kernel
theorem dX3_run_149 : decode cX3_run 149 = .ok (.aload_n 0, 1) := by decide +kernel
theorem dX3_run_150 : decode cX3_run 150 = .ok (.getfield 24, 3) := by decide +kernel
theorem dX3_run_153 : decode cX3_run 153 = .ok (.iload 4, 2) := by decide +kernel
theorem dX3_run_155 : decode cX3_run 155 = .ok (.iconst 1, 1) := by decide +kernel
theorem dX3_run_156 : decode cX3_run 156 = .ok (.isub, 1) := by decide +kernel
theorem dX3_run_157 : decode cX3_run 157 = .ok (.iaload, 1) := by decide +kernel
theorem dX3_run_158 : decode cX3_run 158 = .ok (.aload_n 0, 1) := by decide +kernel
theorem dX3_run_159 : decode cX3_run 159 = .ok (.getfield 24, 3) := by decide +kernel
theorem dX3_run_162 : decode cX3_run 162 = .ok (.iload 4, 2) := by decide +kernel
theorem dX3_run_164 : decode cX3_run 164 = .ok (.iaload, 1) := by decide +kernel
theorem dX3_run_165 : decode cX3_run 165 = .ok (.invokestatic 99, 3) := by decide +kernel
theorem dX3_run_168 : decode cX3_run 168 = .ok (.iastore, 1) := by decide +kernel
theorem dX3_run_169 : decode cX3_run 169 = .ok (.iinc 5 1, 3) := by decide +kernel
theorem dX3_run_172 : decode cX3_run 172 = .ok (.goto (-166), 3) := by decide +kernel
theorem dX3_run_175 : decode cX3_run 175 = .ok (.aload_n 0, 1) := by decide +kernel
theorem dX3_run_176 : decode cX3_run 176 = .ok (.getfield 24, 3) := by decide +kernel
theorem dX3_run_179 : decode cX3_run 179 = .ok (.iconst 0, 1) := by decide +kernel
theorem dX3_run_180 : decode cX3_run 180 = .ok (.iaload, 1) := by decide +kernel
theorem dX3_run_181 : decode cX3_run 181 = .ok (.ireturn, 1) := by decide +kernel
theorem dX3_join_0 : decode cX3_join 0 = .ok (.iload_n 0, 1) := by decide +kernel
theorem dX3_join_1 : decode cX3_join 1 = .ok (.lookupswitch 136 #[(42, 83), (43, 75), (45, 79), (47, 87), (60, 99), (61, 110), (62, 121), (133, 132)], 75) := by decide +kernel
theorem dX3_join_76 : decode cX3_join 76 = .ok (.iload_n 1, 1) := by decide +kernel
theorem dX3_join_77 : decode cX3_join 77 = .ok (.iload_n 2, 1) := by decide +kernel
theorem dX3_join_78 : decode cX3_join 78 = .ok (.iadd, 1) := by decide +kernel
theorem dX3_join_79 : decode cX3_join 79 = .ok (.ireturn, 1) := by decide +kernel
theorem dX3_join_80 : decode cX3_join 80 = .ok (.iload_n 1, 1) := by decide +kernel
theorem dX3_join_81 : decode cX3_join 81 = .ok (.iload_n 2, 1) := by decide +kernel
theorem dX3_join_82 : decode cX3_join 82 = .ok (.isub, 1) := by decide +kernel
theorem dX3_join_83 : decode cX3_join 83 = .ok (.ireturn, 1) := by decide +kernel
theorem dX3_join_84 : decode cX3_join 84 = .ok (.iload_n 1, 1) := by decide +kernel
theorem dX3_join_85 : decode cX3_join 85 = .ok (.iload_n 2, 1) := by decide +kernel
theorem dX3_join_86 : decode cX3_join 86 = .ok (.imul, 1) := by decide +kernel
theorem dX3_join_87 : decode cX3_join 87 = .ok (.ireturn, 1) := by decide +kernel
theorem dX3_join_88 : decode cX3_join 88 = .ok (.iload_n 2, 1) := by decide +kernel
theorem dX3_join_89 : decode cX3_join 89 = .ok (.ifCond .ne 7, 3) := by decide +kernel
theorem dX3_join_92 : decode cX3_join 92 = .ok (.iconst 0, 1) := by decide +kernel
theorem dX3_join_93 : decode cX3_join 93 = .ok (.goto 6, 3) := by decide +kernel
theorem dX3_join_96 : decode cX3_join 96 = .ok (.iload_n 1, 1) := by decide +kernel
theorem dX3_join_97 : decode cX3_join 97 = .ok (.iload_n 2, 1) := by decide +kernel
theorem dX3_join_98 : decode cX3_join 98 = .ok (.idiv, 1) := by decide +kernel
theorem dX3_join_99 : decode cX3_join 99 = .ok (.ireturn, 1) := by decide +kernel
theorem dX3_join_100 : decode cX3_join 100 = .ok (.iload_n 1, 1) := by decide +kernel
theorem dX3_join_101 : decode cX3_join 101 = .ok (.iload_n 2, 1) := by decide +kernel
theorem dX3_join_102 : decode cX3_join 102 = .ok (.if_icmp .ge 7, 3) := by decide +kernel
theorem dX3_join_105 : decode cX3_join 105 = .ok (.iconst 1, 1) := by decide +kernel
theorem dX3_join_106 : decode cX3_join 106 = .ok (.goto 4, 3) := by decide +kernel
theorem dX3_join_109 : decode cX3_join 109 = .ok (.iconst 0, 1) := by decide +kernel
theorem dX3_join_110 : decode cX3_join 110 = .ok (.ireturn, 1) := by decide +kernel
theorem dX3_join_111 : decode cX3_join 111 = .ok (.iload_n 1, 1) := by decide +kernel
theorem dX3_join_112 : decode cX3_join 112 = .ok (.iload_n 2, 1) := by decide +kernel
theorem dX3_join_113 : decode cX3_join 113 = .ok (.if_icmp .ne 7, 3) := by decide +kernel
theorem dX3_join_116 : decode cX3_join 116 = .ok (.iconst 1, 1) := by decide +kernel
theorem dX3_join_117 : decode cX3_join 117 = .ok (.goto 4, 3) := by decide +kernel
theorem dX3_join_120 : decode cX3_join 120 = .ok (.iconst 0, 1) := by decide +kernel
theorem dX3_join_121 : decode cX3_join 121 = .ok (.ireturn, 1) := by decide +kernel
theorem dX3_join_122 : decode cX3_join 122 = .ok (.iload_n 1, 1) := by decide +kernel
theorem dX3_join_123 : decode cX3_join 123 = .ok (.iload_n 2, 1) := by decide +kernel
theorem dX3_join_124 : decode cX3_join 124 = .ok (.if_icmp .le 7, 3) := by decide +kernel
theorem dX3_join_127 : decode cX3_join 127 = .ok (.iconst 1, 1) := by decide +kernel
theorem dX3_join_128 : decode cX3_join 128 = .ok (.goto 4, 3) := by decide +kernel
theorem dX3_join_131 : decode cX3_join 131 = .ok (.iconst 0, 1) := by decide +kernel
theorem dX3_join_132 : decode cX3_join 132 = .ok (.ireturn, 1) := by decide +kernel
theorem dX3_join_133 : decode cX3_join 133 = .ok (.iload_n 1, 1) := by decide +kernel
theorem dX3_join_134 : decode cX3_join 134 = .ok (.iload_n 2, 1) := by decide +kernel
theorem dX3_join_135 : decode cX3_join 135 = .ok (.iand, 1) := by decide +kernel
theorem dX3_join_136 : decode cX3_join 136 = .ok (.ireturn, 1) := by decide +kernel
theorem dX3_join_137 : decode cX3_join 137 = .ok (.iload_n 1, 1) := by decide +kernel
theorem dX3_join_138 : decode cX3_join 138 = .ok (.iload_n 2, 1) := by decide +kernel
theorem dX3_join_139 : decode cX3_join 139 = .ok (.ior, 1) := by decide +kernel
theorem dX3_join_140 : decode cX3_join 140 = .ok (.ireturn, 1) := by decide +kernel
theorem dX4_init_0 : decode cX4_init 0 = .ok (.aload_n 0, 1) := by decide +kernel
theorem dX4_init_1 : decode cX4_init 1 = .ok (.invokespecial 5, 3) := by decide +kernel
theorem dX4_init_4 : decode cX4_init 4 = .ok (.aload_n 0, 1) := by decide +kernel
theorem dX4_init_5 : decode cX4_init 5 = .ok (.sipush 6561, 3) := by decide +kernel
theorem dX4_init_8 : decode cX4_init 8 = .ok (.newarray .int, 2) := by decide +kernel
theorem dX4_init_10 : decode cX4_init 10 = .ok (.putfield 11, 3) := by decide +kernel
theorem dX4_init_13 : decode cX4_init 13 = .ok (.aload_n 0, 1) := by decide +kernel
theorem dX4_init_14 : decode cX4_init 14 = .ok (.sipush 6561, 3) := by decide +kernel
theorem dX4_init_17 : decode cX4_init 17 = .ok (.newarray .int, 2) := by decide +kernel
theorem dX4_init_19 : decode cX4_init 19 = .ok (.putfield 15, 3) := by decide +kernel
theorem dX4_init_22 : decode cX4_init 22 = .ok (.aload_n 0, 1) := by decide +kernel
theorem dX4_init_23 : decode cX4_init 23 = .ok (.bipush 41, 2) := by decide +kernel
theorem dX4_init_25 : decode cX4_init 25 = .ok (.newarray .int, 2) := by decide +kernel
theorem dX4_init_27 : decode cX4_init 27 = .ok (.putfield 18, 3) := by decide +kernel
theorem dX4_init_30 : decode cX4_init 30 = .ok (.aload_n 0, 1) := by decide +kernel
theorem dX4_init_31 : decode cX4_init 31 = .ok (.sipush 3721, 3) := by decide +kernel
theorem dX4_init_34 : decode cX4_init 34 = .ok (.newarray .int, 2) := by decide +kernel
theorem dX4_init_36 : decode cX4_init 36 = .ok (.putfield 21, 3) := by decide +kernel
theorem dX4_init_39 : decode cX4_init 39 = .ok (.return_, 1) := by decide +kernel
theorem dX4_foldTurn_0 : decode cX4_foldTurn 0 = .ok (.iload_n 1, 1) := by decide +kernel
theorem dX4_foldTurn_1 : decode cX4_foldTurn 1 = .ok (.istore_n 2, 1) := by decide +kernel
theorem dX4_foldTurn_2 : decode cX4_foldTurn 2 = .ok (.iload_n 2, 1) := by decide +kernel
theorem dX4_foldTurn_3 : decode cX4_foldTurn 3 = .ok (.iconst 1, 1) := by decide +kernel
theorem dX4_foldTurn_4 : decode cX4_foldTurn 4 = .ok (.if_icmp .le 16, 3) := by decide +kernel
theorem dX4_foldTurn_7 : decode cX4_foldTurn 7 = .ok (.iload_n 2, 1) := by decide +kernel
theorem dX4_foldTurn_8 : decode cX4_foldTurn 8 = .ok (.iconst 2, 1) := by decide +kernel
theorem dX4_foldTurn_9 : decode cX4_foldTurn 9 = .ok (.irem, 1) := by decide +kernel
theorem dX4_foldTurn_10 : decode cX4_foldTurn 10 = .ok (.ifCond .ne 10, 3) := by decide +kernel
theorem dX4_foldTurn_13 : decode cX4_foldTurn 13 = .ok (.iload_n 2, 1) := by decide +kernel
theorem dX4_foldTurn_14 : decode cX4_foldTurn 14 = .ok (.iconst 2, 1) := by decide +kernel
theorem dX4_foldTurn_15 : decode cX4_foldTurn 15 = .ok (.idiv, 1) := by decide +kernel
theorem dX4_foldTurn_16 : decode cX4_foldTurn 16 = .ok (.istore_n 2, 1) := by decide +kernel
theorem dX4_foldTurn_17 : decode cX4_foldTurn 17 = .ok (.goto (-15), 3) := by decide +kernel
theorem dX4_foldTurn_20 : decode cX4_foldTurn 20 = .ok (.iload_n 2, 1) := by decide +kernel
theorem dX4_foldTurn_21 : decode cX4_foldTurn 21 = .ok (.iconst 4, 1) := by decide +kernel
theorem dX4_foldTurn_22 : decode cX4_foldTurn 22 = .ok (.irem, 1) := by decide +kernel
theorem dX4_foldTurn_23 : decode cX4_foldTurn 23 = .ok (.iconst 1, 1) := by decide +kernel
theorem dX4_foldTurn_24 : decode cX4_foldTurn 24 = .ok (.if_icmp .ne 7, 3) := by decide +kernel
theorem dX4_foldTurn_27 : decode cX4_foldTurn 27 = .ok (.iconst 1, 1) := by decide +kernel
theorem dX4_foldTurn_28 : decode cX4_foldTurn 28 = .ok (.goto 4, 3) := by decide +kernel
theorem dX4_foldTurn_31 : decode cX4_foldTurn 31 = .ok (.iconst 0, 1) := by decide +kernel
theorem dX4_foldTurn_32 : decode cX4_foldTurn 32 = .ok (.ireturn, 1) := by decide +kernel
theorem dX4_foldEnd_0 : decode cX4_foldEnd 0 = .ok (.iconst 0, 1) := by decide +kernel
theorem dX4_foldEnd_1 : decode cX4_foldEnd 1 = .ok (.istore_n 3, 1) := by decide +kernel
theorem dX4_foldEnd_2 : decode cX4_foldEnd 2 = .ok (.iconst 1, 1) := by decide +kernel
theorem dX4_foldEnd_3 : decode cX4_foldEnd 3 = .ok (.istore 4, 2) := by decide +kernel
theorem dX4_foldEnd_5 : decode cX4_foldEnd 5 = .ok (.iconst 0, 1) := by decide +kernel
theorem dX4_foldEnd_6 : decode cX4_foldEnd 6 = .ok (.istore 5, 2) := by decide +kernel
theorem dX4_foldEnd_8 : decode cX4_foldEnd 8 = .ok (.iload 5, 2) := by decide +kernel
theorem dX4_foldEnd_10 : decode cX4_foldEnd 10 = .ok (.iload_n 1, 1) := by decide +kernel
theorem dX4_foldEnd_11 : decode cX4_foldEnd 11 = .ok (.if_icmp .ge 24, 3) := by decide +kernel
theorem dX4_foldEnd_14 : decode cX4_foldEnd 14 = .ok (.iload_n 3, 1) := by decide +kernel
theorem dX4_foldEnd_15 : decode cX4_foldEnd 15 = .ok (.iload 4, 2) := by decide +kernel
theorem dX4_foldEnd_17 : decode cX4_foldEnd 17 = .ok (.iadd, 1) := by decide +kernel
theorem dX4_foldEnd_18 : decode cX4_foldEnd 18 = .ok (.istore 6, 2) := by decide +kernel
theorem dX4_foldEnd_20 : decode cX4_foldEnd 20 = .ok (.iload 4, 2) := by decide +kernel
theorem dX4_foldEnd_22 : decode cX4_foldEnd 22 = .ok (.iload_n 3, 1) := by decide +kernel
theorem dX4_foldEnd_23 : decode cX4_foldEnd 23 = .ok (.isub, 1) := by decide +kernel
theorem dX4_foldEnd_24 : decode cX4_foldEnd 24 = .ok (.istore 4, 2) := by decide +kernel
theorem dX4_foldEnd_26 : decode cX4_foldEnd 26 = .ok (.iload 6, 2) := by decide +kernel
theorem dX4_foldEnd_28 : decode cX4_foldEnd 28 = .ok (.istore_n 3, 1) := by decide +kernel
theorem dX4_foldEnd_29 : decode cX4_foldEnd 29 = .ok (.iinc 5 1, 3) := by decide +kernel
theorem dX4_foldEnd_32 : decode cX4_foldEnd 32 = .ok (.goto (-24), 3) := by decide +kernel
theorem dX4_foldEnd_35 : decode cX4_foldEnd 35 = .ok (.iload_n 2, 1) := by decide +kernel
theorem dX4_foldEnd_36 : decode cX4_foldEnd 36 = .ok (.ifCond .eq 7, 3) := by decide +kernel
theorem dX4_foldEnd_39 : decode cX4_foldEnd 39 = .ok (.iload_n 3, 1) := by decide +kernel
theorem dX4_foldEnd_40 : decode cX4_foldEnd 40 = .ok (.goto 5, 3) := by decide +kernel
theorem dX4_foldEnd_43 : decode cX4_foldEnd 43 = .ok (.iload 4, 2) := by decide +kernel
theorem dX4_foldEnd_45 : decode cX4_foldEnd 45 = .ok (.ireturn, 1) := by decide +kernel
theorem dX4_paces_0 : decode cX4_paces 0 = .ok (.aload_n 0, 1) := by decide +kernel
theorem dX4_paces_1 : decode cX4_paces 1 = .ok (.getfield 11, 3) := by decide +kernel
theorem dX4_paces_4 : decode cX4_paces 4 = .ok (.iconst (-1), 1) := by decide +kernel
theorem dX4_paces_5 : decode cX4_paces 5 = .ok (.invokestatic 24, 3) := by decide +kernel
theorem dX4_paces_8 : decode cX4_paces 8 = .ok (.iconst 0, 1) := by decide +kernel
theorem dX4_paces_9 : decode cX4_paces 9 = .ok (.iconst 0, 1) := by decide +kernel
theorem dX4_paces_10 : decode cX4_paces 10 = .ok (.invokestatic 30, 3) := by decide +kernel
theorem dX4_paces_13 : decode cX4_paces 13 = .ok (.istore 5, 2) := by decide +kernel
theorem dX4_paces_15 : decode cX4_paces 15 = .ok (.iload_n 3, 1) := by decide +kernel
theorem dX4_paces_16 : decode cX4_paces 16 = .ok (.iload 4, 2) := by decide +kernel
theorem dX4_paces_18 : decode cX4_paces 18 = .ok (.invokestatic 30, 3) := by decide +kernel
theorem dX4_paces_21 : decode cX4_paces 21 = .ok (.istore 6, 2) := by decide +kernel
theorem dX4_paces_23 : decode cX4_paces 23 = .ok (.aload_n 0, 1) := by decide +kernel
theorem dX4_paces_24 : decode cX4_paces 24 = .ok (.getfield 11, 3) := by decide +kernel
theorem dX4_paces_27 : decode cX4_paces 27 = .ok (.iload 5, 2) := by decide +kernel
theorem dX4_paces_29 : decode cX4_paces 29 = .ok (.iconst 0, 1) := by decide +kernel
theorem dX4_paces_30 : decode cX4_paces 30 = .ok (.iastore, 1) := by decide +kernel
theorem dX4_paces_31 : decode cX4_paces 31 = .ok (.aload_n 0, 1) := by decide +kernel
theorem dX4_paces_32 : decode cX4_paces 32 = .ok (.getfield 15, 3) := by decide +kernel
theorem dX4_paces_35 : decode cX4_paces 35 = .ok (.iconst 0, 1) := by decide +kernel
theorem dX4_paces_36 : decode cX4_paces 36 = .ok (.iload 5, 2) := by decide +kernel
theorem dX4_paces_38 : decode cX4_paces 38 = .ok (.iastore, 1) := by decide +kernel
theorem dX4_paces_39 : decode cX4_paces 39 = .ok (.iconst 1, 1) := by decide +kernel
theorem dX4_paces_40 : decode cX4_paces 40 = .ok (.istore 7, 2) := by decide +kernel
theorem dX4_paces_42 : decode cX4_paces 42 = .ok (.iconst 0, 1) := by decide +kernel
theorem dX4_paces_43 : decode cX4_paces 43 = .ok (.istore 8, 2) := by decide +kernel
theorem dX4_paces_45 : decode cX4_paces 45 = .ok (.iload 8, 2) := by decide +kernel
theorem dX4_paces_47 : decode cX4_paces 47 = .ok (.iload 7, 2) := by decide +kernel
theorem dX4_paces_49 : decode cX4_paces 49 = .ok (.if_icmp .ge 141, 3) := by decide +kernel
theorem dX4_paces_52 : decode cX4_paces 52 = .ok (.aload_n 0, 1) := by decide +kernel
theorem dX4_paces_53 : decode cX4_paces 53 = .ok (.getfield 11, 3) := by decide +kernel
theorem dX4_paces_56 : decode cX4_paces 56 = .ok (.iload 6, 2) := by decide +kernel
theorem dX4_paces_58 : decode cX4_paces 58 = .ok (.iaload, 1) := by decide +kernel
theorem dX4_paces_59 : decode cX4_paces 59 = .ok (.iconst (-1), 1) := by decide +kernel
theorem dX4_paces_60 : decode cX4_paces 60 = .ok (.if_icmp .ne 130, 3) := by decide +kernel
theorem dX4_paces_63 : decode cX4_paces 63 = .ok (.aload_n 0, 1) := by decide +kernel
theorem dX4_paces_64 : decode cX4_paces 64 = .ok (.getfield 15, 3) := by decide +kernel
theorem dX4_paces_67 : decode cX4_paces 67 = .ok (.iload 8, 2) := by decide +kernel
theorem dX4_paces_69 : decode cX4_paces 69 = .ok (.iaload, 1) := by decide +kernel
theorem dX4_paces_70 : decode cX4_paces 70 = .ok (.istore 9, 2) := by decide +kernel
theorem dX4_paces_72 : decode cX4_paces 72 = .ok (.iconst 0, 1) := by decide +kernel
theorem dX4_paces_73 : decode cX4_paces 73 = .ok (.istore 10, 2) := by decide +kernel
theorem dX4_paces_75 : decode cX4_paces 75 = .ok (.iload 10, 2) := by decide +kernel
theorem dX4_paces_77 : decode cX4_paces 77 = .ok (.bipush 8, 2) := by decide +kernel
theorem dX4_paces_79 : decode cX4_paces 79 = .ok (.if_icmp .ge 105, 3) := by decide +kernel
theorem dX4_paces_82 : decode cX4_paces 82 = .ok (.aload_n 0, 1) := by decide +kernel
theorem dX4_paces_83 : decode cX4_paces 83 = .ok (.getfield 11, 3) := by decide +kernel
theorem dX4_paces_86 : decode cX4_paces 86 = .ok (.iload 9, 2) := by decide +kernel
theorem dX4_paces_88 : decode cX4_paces 88 = .ok (.iaload, 1) := by decide +kernel
theorem dX4_paces_89 : decode cX4_paces 89 = .ok (.bipush 12, 2) := by decide +kernel
theorem dX4_paces_91 : decode cX4_paces 91 = .ok (.if_icmp .ge 93, 3) := by decide +kernel
theorem dX4_paces_94 : decode cX4_paces 94 = .ok (.iload 9, 2) := by decide +kernel
theorem dX4_paces_96 : decode cX4_paces 96 = .ok (.iload 10, 2) := by decide +kernel
theorem dX4_paces_98 : decode cX4_paces 98 = .ok (.iconst 4, 1) := by decide +kernel
theorem dX4_paces_99 : decode cX4_paces 99 = .ok (.if_icmp .ge 7, 3) := by decide +kernel
theorem dX4_paces_102 : decode cX4_paces 102 = .ok (.iload_n 1, 1) := by decide +kernel
theorem dX4_paces_103 : decode cX4_paces 103 = .ok (.goto 4, 3) := by decide +kernel
theorem dX4_paces_106 : decode cX4_paces 106 = .ok (.iload_n 2, 1) := by decide +kernel
theorem dX4_paces_107 : decode cX4_paces 107 = .ok (.iload 10, 2) := by decide +kernel
theorem dX4_paces_109 : decode cX4_paces 109 = .ok (.iconst 4, 1) := by decide +kernel
theorem dX4_paces_110 : decode cX4_paces 110 = .ok (.if_icmp .ge 7, 3) := by decide +kernel
theorem dX4_paces_113 : decode cX4_paces 113 = .ok (.iload_n 2, 1) := by decide +kernel
theorem dX4_paces_114 : decode cX4_paces 114 = .ok (.goto 4, 3) := by decide +kernel
theorem dX4_paces_117 : decode cX4_paces 117 = .ok (.iload_n 1, 1) := by decide +kernel
theorem dX4_paces_118 : decode cX4_paces 118 = .ok (.iload 10, 2) := by decide +kernel
theorem dX4_paces_120 : decode cX4_paces 120 = .ok (.invokestatic 34, 3) := by decide +kernel
theorem dX4_paces_123 : decode cX4_paces 123 = .ok (.istore 11, 2) := by decide +kernel
theorem dX4_paces_125 : decode cX4_paces 125 = .ok (.iload 11, 2) := by decide +kernel
theorem dX4_paces_127 : decode cX4_paces 127 = .ok (.iconst (-1), 1) := by decide +kernel
theorem dX4_paces_128 : decode cX4_paces 128 = .ok (.if_icmp .eq 50, 3) := by decide +kernel
theorem dX4_paces_131 : decode cX4_paces 131 = .ok (.aload_n 0, 1) := by decide +kernel
theorem dX4_paces_132 : decode cX4_paces 132 = .ok (.getfield 11, 3) := by decide +kernel
theorem dX4_paces_135 : decode cX4_paces 135 = .ok (.iload 11, 2) := by decide +kernel
theorem dX4_paces_137 : decode cX4_paces 137 = .ok (.iaload, 1) := by decide +kernel
theorem dX4_paces_138 : decode cX4_paces 138 = .ok (.iconst (-1), 1) := by decide +kernel
theorem dX4_paces_139 : decode cX4_paces 139 = .ok (.if_icmp .ne 39, 3) := by decide +kernel
theorem dX4_paces_142 : decode cX4_paces 142 = .ok (.iload 7, 2) := by decide +kernel
theorem dX4_paces_144 : decode cX4_paces 144 = .ok (.sipush 6561, 3) := by decide +kernel
theorem dX4_paces_147 : decode cX4_paces 147 = .ok (.if_icmp .ge 31, 3) := by decide +kernel
theorem dX4_paces_150 : decode cX4_paces 150 = .ok (.aload_n 0, 1) := by decide +kernel
theorem dX4_paces_151 : decode cX4_paces 151 = .ok (.getfield 11, 3) := by decide +kernel
theorem dX4_paces_154 : decode cX4_paces 154 = .ok (.iload 11, 2) := by decide +kernel
theorem dX4_paces_156 : decode cX4_paces 156 = .ok (.aload_n 0, 1) := by decide +kernel
theorem dX4_paces_157 : decode cX4_paces 157 = .ok (.getfield 11, 3) := by decide +kernel
theorem dX4_paces_160 : decode cX4_paces 160 = .ok (.iload 9, 2) := by decide +kernel
theorem dX4_paces_162 : decode cX4_paces 162 = .ok (.iaload, 1) := by decide +kernel
theorem dX4_paces_163 : decode cX4_paces 163 = .ok (.iconst 1, 1) := by decide +kernel
theorem dX4_paces_164 : decode cX4_paces 164 = .ok (.iadd, 1) := by decide +kernel
theorem dX4_paces_165 : decode cX4_paces 165 = .ok (.iastore, 1) := by decide +kernel
theorem dX4_paces_166 : decode cX4_paces 166 = .ok (.aload_n 0, 1) := by decide +kernel
theorem dX4_paces_167 : decode cX4_paces 167 = .ok (.getfield 15, 3) := by decide +kernel
theorem dX4_paces_170 : decode cX4_paces 170 = .ok (.iload 7, 2) := by decide +kernel
theorem dX4_paces_172 : decode cX4_paces 172 = .ok (.iload 11, 2) := by decide +kernel
theorem dX4_paces_174 : decode cX4_paces 174 = .ok (.iastore, 1) := by decide +kernel
theorem dX4_paces_175 : decode cX4_paces 175 = .ok (.iinc 7 1, 3) := by decide +kernel
theorem dX4_paces_178 : decode cX4_paces 178 = .ok (.iinc 10 1, 3) := by decide +kernel
theorem dX4_paces_181 : decode cX4_paces 181 = .ok (.goto (-106), 3) := by decide +kernel
theorem dX4_paces_184 : decode cX4_paces 184 = .ok (.iinc 8 1, 3) := by decide +kernel
theorem dX4_paces_187 : decode cX4_paces 187 = .ok (.goto (-142), 3) := by decide +kernel
theorem dX4_paces_190 : decode cX4_paces 190 = .ok (.aload_n 0, 1) := by decide +kernel
theorem dX4_paces_191 : decode cX4_paces 191 = .ok (.getfield 11, 3) := by decide +kernel
theorem dX4_paces_194 : decode cX4_paces 194 = .ok (.iload 6, 2) := by decide +kernel
theorem dX4_paces_196 : decode cX4_paces 196 = .ok (.iaload, 1) := by decide +kernel
theorem dX4_paces_197 : decode cX4_paces 197 = .ok (.ireturn, 1) := by decide +kernel
theorem dX4_antLeaves_0 : decode cX4_antLeaves 0 = .ok (.aload_n 0, 1) := by decide +kernel
theorem dX4_antLeaves_1 : decode cX4_antLeaves 1 = .ok (.getfield 11, 3) := by decide +kernel
theorem dX4_antLeaves_4 : decode cX4_antLeaves 4 = .ok (.iconst 0, 1) := by decide +kernel
theorem dX4_antLeaves_5 : decode cX4_antLeaves 5 = .ok (.invokestatic 24, 3) := by decide +kernel
theorem dX4_antLeaves_8 : decode cX4_antLeaves 8 = .ok (.iconst 0, 1) := by decide +kernel
theorem dX4_antLeaves_9 : decode cX4_antLeaves 9 = .ok (.istore_n 3, 1) := by decide +kernel
theorem dX4_antLeaves_10 : decode cX4_antLeaves 10 = .ok (.iconst 0, 1) := by decide +kernel
theorem dX4_antLeaves_11 : decode cX4_antLeaves 11 = .ok (.istore 4, 2) := by decide +kernel
theorem dX4_antLeaves_13 : decode cX4_antLeaves 13 = .ok (.iconst 0, 1) := by decide +kernel
theorem dX4_antLeaves_14 : decode cX4_antLeaves 14 = .ok (.istore 5, 2) := by decide +kernel
theorem dX4_antLeaves_16 : decode cX4_antLeaves 16 = .ok (.iconst 0, 1) := by decide +kernel
theorem dX4_antLeaves_17 : decode cX4_antLeaves 17 = .ok (.istore 6, 2) := by decide +kernel
theorem dX4_antLeaves_19 : decode cX4_antLeaves 19 = .ok (.iconst 0, 1) := by decide +kernel
theorem dX4_antLeaves_20 : decode cX4_antLeaves 20 = .ok (.istore 7, 2) := by decide +kernel
theorem dX4_antLeaves_22 : decode cX4_antLeaves 22 = .ok (.iconst 0, 1) := by decide +kernel
theorem dX4_antLeaves_23 : decode cX4_antLeaves 23 = .ok (.istore 8, 2) := by decide +kernel
theorem dX4_antLeaves_25 : decode cX4_antLeaves 25 = .ok (.iload 8, 2) := by decide +kernel
theorem dX4_antLeaves_27 : decode cX4_antLeaves 27 = .ok (.iload_n 1, 1) := by decide +kernel
theorem dX4_antLeaves_28 : decode cX4_antLeaves 28 = .ok (.if_icmp .ge 121, 3) := by decide +kernel
theorem dX4_antLeaves_31 : decode cX4_antLeaves 31 = .ok (.iload_n 3, 1) := by decide +kernel
theorem dX4_antLeaves_32 : decode cX4_antLeaves 32 = .ok (.iload 4, 2) := by decide +kernel
theorem dX4_antLeaves_34 : decode cX4_antLeaves 34 = .ok (.invokestatic 30, 3) := by decide +kernel
theorem dX4_antLeaves_37 : decode cX4_antLeaves 37 = .ok (.istore 9, 2) := by decide +kernel
theorem dX4_antLeaves_39 : decode cX4_antLeaves 39 = .ok (.iload 9, 2) := by decide +kernel
theorem dX4_antLeaves_41 : decode cX4_antLeaves 41 = .ok (.iconst (-1), 1) := by decide +kernel
theorem dX4_antLeaves_42 : decode cX4_antLeaves 42 = .ok (.if_icmp .ne 6, 3) := by decide +kernel
theorem dX4_antLeaves_45 : decode cX4_antLeaves 45 = .ok (.goto 104, 3) := by decide +kernel
theorem dX4_antLeaves_48 : decode cX4_antLeaves 48 = .ok (.aload_n 0, 1) := by decide +kernel
theorem dX4_antLeaves_49 : decode cX4_antLeaves 49 = .ok (.getfield 11, 3) := by decide +kernel
theorem dX4_antLeaves_52 : decode cX4_antLeaves 52 = .ok (.iload 9, 2) := by decide +kernel
theorem dX4_antLeaves_54 : decode cX4_antLeaves 54 = .ok (.iaload, 1) := by decide +kernel
theorem dX4_antLeaves_55 : decode cX4_antLeaves 55 = .ok (.ifCond .ne 7, 3) := by decide +kernel
theorem dX4_antLeaves_58 : decode cX4_antLeaves 58 = .ok (.iconst 1, 1) := by decide +kernel
theorem dX4_antLeaves_59 : decode cX4_antLeaves 59 = .ok (.goto 4, 3) := by decide +kernel
theorem dX4_antLeaves_62 : decode cX4_antLeaves 62 = .ok (.iconst 0, 1) := by decide +kernel
theorem dX4_antLeaves_63 : decode cX4_antLeaves 63 = .ok (.istore 10, 2) := by decide +kernel
theorem dX4_antLeaves_65 : decode cX4_antLeaves 65 = .ok (.aload_n 0, 1) := by decide +kernel
theorem dX4_antLeaves_66 : decode cX4_antLeaves 66 = .ok (.getfield 11, 3) := by decide +kernel
theorem dX4_antLeaves_69 : decode cX4_antLeaves 69 = .ok (.iload 9, 2) := by decide +kernel
theorem dX4_antLeaves_71 : decode cX4_antLeaves 71 = .ok (.iload 10, 2) := by decide +kernel
theorem dX4_antLeaves_73 : decode cX4_antLeaves 73 = .ok (.ifCond .eq 7, 3) := by decide +kernel
theorem dX4_antLeaves_76 : decode cX4_antLeaves 76 = .ok (.iconst 1, 1) := by decide +kernel
theorem dX4_antLeaves_77 : decode cX4_antLeaves 77 = .ok (.goto 4, 3) := by decide +kernel
theorem dX4_antLeaves_80 : decode cX4_antLeaves 80 = .ok (.iconst 0, 1) := by decide +kernel
theorem dX4_antLeaves_81 : decode cX4_antLeaves 81 = .ok (.iastore, 1) := by decide +kernel
theorem dX4_antLeaves_82 : decode cX4_antLeaves 82 = .ok (.iload 6, 2) := by decide +kernel
theorem dX4_antLeaves_84 : decode cX4_antLeaves 84 = .ok (.iload 10, 2) := by decide +kernel
theorem dX4_antLeaves_86 : decode cX4_antLeaves 86 = .ok (.ifCond .eq 7, 3) := by decide +kernel
theorem dX4_antLeaves_89 : decode cX4_antLeaves 89 = .ok (.iconst 1, 1) := by decide +kernel
theorem dX4_antLeaves_90 : decode cX4_antLeaves 90 = .ok (.goto 4, 3) := by decide +kernel
theorem dX4_antLeaves_93 : decode cX4_antLeaves 93 = .ok (.iconst (-1), 1) := by decide +kernel
theorem dX4_antLeaves_94 : decode cX4_antLeaves 94 = .ok (.iadd, 1) := by decide +kernel
theorem dX4_antLeaves_95 : decode cX4_antLeaves 95 = .ok (.istore 6, 2) := by decide +kernel
theorem dX4_antLeaves_97 : decode cX4_antLeaves 97 = .ok (.iload 7, 2) := by decide +kernel
theorem dX4_antLeaves_99 : decode cX4_antLeaves 99 = .ok (.iload 6, 2) := by decide +kernel
theorem dX4_antLeaves_101 : decode cX4_antLeaves 101 = .ok (.invokestatic 38, 3) := by decide +kernel
theorem dX4_antLeaves_104 : decode cX4_antLeaves 104 = .ok (.istore 7, 2) := by decide +kernel
theorem dX4_antLeaves_106 : decode cX4_antLeaves 106 = .ok (.iload 5, 2) := by decide +kernel
theorem dX4_antLeaves_108 : decode cX4_antLeaves 108 = .ok (.iload 10, 2) := by decide +kernel
theorem dX4_antLeaves_110 : decode cX4_antLeaves 110 = .ok (.ifCond .eq 7, 3) := by decide +kernel
theorem dX4_antLeaves_113 : decode cX4_antLeaves 113 = .ok (.iconst 1, 1) := by decide +kernel
theorem dX4_antLeaves_114 : decode cX4_antLeaves 114 = .ok (.goto 4, 3) := by decide +kernel
theorem dX4_antLeaves_117 : decode cX4_antLeaves 117 = .ok (.iconst 3, 1) := by decide +kernel
theorem dX4_antLeaves_118 : decode cX4_antLeaves 118 = .ok (.iadd, 1) := by decide +kernel
theorem dX4_antLeaves_119 : decode cX4_antLeaves 119 = .ok (.iconst 3, 1) := by decide +kernel
theorem dX4_antLeaves_120 : decode cX4_antLeaves 120 = .ok (.iand, 1) := by decide +kernel
theorem dX4_antLeaves_121 : decode cX4_antLeaves 121 = .ok (.istore 5, 2) := by decide +kernel
theorem dX4_antLeaves_123 : decode cX4_antLeaves 123 = .ok (.iload_n 3, 1) := by decide +kernel
theorem dX4_antLeaves_124 : decode cX4_antLeaves 124 = .ok (.getstatic 43, 3) := by decide +kernel
theorem dX4_antLeaves_127 : decode cX4_antLeaves 127 = .ok (.iload 5, 2) := by decide +kernel
theorem dX4_antLeaves_129 : decode cX4_antLeaves 129 = .ok (.iaload, 1) := by decide +kernel
theorem dX4_antLeaves_130 : decode cX4_antLeaves 130 = .ok (.iadd, 1) := by decide +kernel
theorem dX4_antLeaves_131 : decode cX4_antLeaves 131 = .ok (.istore_n 3, 1) := by decide +kernel
theorem dX4_antLeaves_132 : decode cX4_antLeaves 132 = .ok (.iload 4, 2) := by decide +kernel
theorem dX4_antLeaves_134 : decode cX4_antLeaves 134 = .ok (.getstatic 46, 3) := by decide +kernel
theorem dX4_antLeaves_137 : decode cX4_antLeaves 137 = .ok (.iload 5, 2) := by decide +kernel
theorem dX4_antLeaves_139 : decode cX4_antLeaves 139 = .ok (.iaload, 1) := by decide +kernel
theorem dX4_antLeaves_140 : decode cX4_antLeaves 140 = .ok (.iadd, 1) := by decide +kernel
theorem dX4_antLeaves_141 : decode cX4_antLeaves 141 = .ok (.istore 4, 2) := by decide +kernel
theorem dX4_antLeaves_143 : decode cX4_antLeaves 143 = .ok (.iinc 8 1, 3) := by decide +kernel
theorem dX4_antLeaves_146 : decode cX4_antLeaves 146 = .ok (.goto (-121), 3) := by decide +kernel
theorem dX4_antLeaves_149 : decode cX4_antLeaves 149 = .ok (.iload_n 2, 1) := by decide +kernel
theorem dX4_antLeaves_150 : decode cX4_antLeaves 150 = .ok (.tableswitch 34 0 2 #[26, 29, 31], 26) := by decide +kernel
theorem dX4_antLeaves_176 : decode cX4_antLeaves 176 = .ok (.iload 6, 2) := by decide +kernel
theorem dX4_antLeaves_178 : decode cX4_antLeaves 178 = .ok (.ireturn, 1) := by decide +kernel
theorem dX4_antLeaves_179 : decode cX4_antLeaves 179 = .ok (.iload_n 3, 1) := by decide +kernel
theorem dX4_antLeaves_180 : decode cX4_antLeaves 180 = .ok (.ireturn, 1) := by decide +kernel
theorem dX4_antLeaves_181 : decode cX4_antLeaves 181 = .ok (.iload 4, 2) := by decide +kernel
theorem dX4_antLeaves_183 : decode cX4_antLeaves 183 = .ok (.ireturn, 1) := by decide +kernel
theorem dX4_antLeaves_184 : decode cX4_antLeaves 184 = .ok (.iload 7, 2) := by decide +kernel
theorem dX4_antLeaves_186 : decode cX4_antLeaves 186 = .ok (.ireturn, 1) := by decide +kernel
theorem dX4_hooksAndSlabs_0 : decode cX4_hooksAndSlabs 0 = .ok (.aload_n 0, 1) := by decide +kernel
theorem dX4_hooksAndSlabs_1 : decode cX4_hooksAndSlabs 1 = .ok (.getfield 18, 3) := by decide +kernel
theorem dX4_hooksAndSlabs_4 : decode cX4_hooksAndSlabs 4 = .ok (.iconst 0, 1) := by decide +kernel
theorem dX4_hooksAndSlabs_5 : decode cX4_hooksAndSlabs 5 = .ok (.iconst 1, 1) := by decide +kernel
theorem dX4_hooksAndSlabs_6 : decode cX4_hooksAndSlabs 6 = .ok (.iastore, 1) := by decide +kernel
theorem dX4_hooksAndSlabs_7 : decode cX4_hooksAndSlabs 7 = .ok (.aload_n 0, 1) := by decide +kernel
theorem dX4_hooksAndSlabs_8 : decode cX4_hooksAndSlabs 8 = .ok (.getfield 18, 3) := by decide +kernel
theorem dX4_hooksAndSlabs_11 : decode cX4_hooksAndSlabs 11 = .ok (.iconst 1, 1) := by decide +kernel
theorem dX4_hooksAndSlabs_12 : decode cX4_hooksAndSlabs 12 = .ok (.iconst 1, 1) := by decide +kernel
theorem dX4_hooksAndSlabs_13 : decode cX4_hooksAndSlabs 13 = .ok (.iastore, 1) := by decide +kernel
theorem dX4_hooksAndSlabs_14 : decode cX4_hooksAndSlabs 14 = .ok (.aload_n 0, 1) := by decide +kernel
theorem dX4_hooksAndSlabs_15 : decode cX4_hooksAndSlabs 15 = .ok (.getfield 18, 3) := by decide +kernel
theorem dX4_hooksAndSlabs_18 : decode cX4_hooksAndSlabs 18 = .ok (.iconst 2, 1) := by decide +kernel
theorem dX4_hooksAndSlabs_19 : decode cX4_hooksAndSlabs 19 = .ok (.iconst 2, 1) := by decide +kernel
theorem dX4_hooksAndSlabs_20 : decode cX4_hooksAndSlabs 20 = .ok (.iastore, 1) := by decide +kernel
theorem dX4_hooksAndSlabs_21 : decode cX4_hooksAndSlabs 21 = .ok (.iconst 3, 1) := by decide +kernel
theorem dX4_hooksAndSlabs_22 : decode cX4_hooksAndSlabs 22 = .ok (.istore_n 2, 1) := by decide +kernel
theorem dX4_hooksAndSlabs_23 : decode cX4_hooksAndSlabs 23 = .ok (.iload_n 2, 1) := by decide +kernel
theorem dX4_hooksAndSlabs_24 : decode cX4_hooksAndSlabs 24 = .ok (.iload_n 1, 1) := by decide +kernel
theorem dX4_hooksAndSlabs_25 : decode cX4_hooksAndSlabs 25 = .ok (.if_icmp .gt 43, 3) := by decide +kernel
theorem dX4_hooksAndSlabs_28 : decode cX4_hooksAndSlabs 28 = .ok (.aload_n 0, 1) := by decide +kernel
theorem dX4_hooksAndSlabs_29 : decode cX4_hooksAndSlabs 29 = .ok (.getfield 18, 3) := by decide +kernel
theorem dX4_hooksAndSlabs_32 : decode cX4_hooksAndSlabs 32 = .ok (.iload_n 2, 1) := by decide +kernel
theorem dX4_hooksAndSlabs_33 : decode cX4_hooksAndSlabs 33 = .ok (.ldc2_w 49, 3) := by decide +kernel
theorem dX4_hooksAndSlabs_36 : decode cX4_hooksAndSlabs 36 = .ok (.aload_n 0, 1) := by decide +kernel
theorem dX4_hooksAndSlabs_37 : decode cX4_hooksAndSlabs 37 = .ok (.getfield 18, 3) := by decide +kernel
theorem dX4_hooksAndSlabs_40 : decode cX4_hooksAndSlabs 40 = .ok (.iload_n 2, 1) := by decide +kernel
theorem dX4_hooksAndSlabs_41 : decode cX4_hooksAndSlabs 41 = .ok (.iconst 1, 1) := by decide +kernel
theorem dX4_hooksAndSlabs_42 : decode cX4_hooksAndSlabs 42 = .ok (.isub, 1) := by decide +kernel
theorem dX4_hooksAndSlabs_43 : decode cX4_hooksAndSlabs 43 = .ok (.iaload, 1) := by decide +kernel
theorem dX4_hooksAndSlabs_44 : decode cX4_hooksAndSlabs 44 = .ok (.i2l, 1) := by decide +kernel
theorem dX4_hooksAndSlabs_45 : decode cX4_hooksAndSlabs 45 = .ok (.lmul, 1) := by decide +kernel
theorem dX4_hooksAndSlabs_46 : decode cX4_hooksAndSlabs 46 = .ok (.aload_n 0, 1) := by decide +kernel
theorem dX4_hooksAndSlabs_47 : decode cX4_hooksAndSlabs 47 = .ok (.getfield 18, 3) := by decide +kernel
theorem dX4_hooksAndSlabs_50 : decode cX4_hooksAndSlabs 50 = .ok (.iload_n 2, 1) := by decide +kernel
theorem dX4_hooksAndSlabs_51 : decode cX4_hooksAndSlabs 51 = .ok (.iconst 3, 1) := by decide +kernel
theorem dX4_hooksAndSlabs_52 : decode cX4_hooksAndSlabs 52 = .ok (.isub, 1) := by decide +kernel
theorem dX4_hooksAndSlabs_53 : decode cX4_hooksAndSlabs 53 = .ok (.iaload, 1) := by decide +kernel
theorem dX4_hooksAndSlabs_54 : decode cX4_hooksAndSlabs 54 = .ok (.i2l, 1) := by decide +kernel
theorem dX4_hooksAndSlabs_55 : decode cX4_hooksAndSlabs 55 = .ok (.ladd, 1) := by decide +kernel
theorem dX4_hooksAndSlabs_56 : decode cX4_hooksAndSlabs 56 = .ok (.ldc2_w 51, 3) := by decide +kernel
theorem dX4_hooksAndSlabs_59 : decode cX4_hooksAndSlabs 59 = .ok (.lrem, 1) := by decide +kernel
theorem dX4_hooksAndSlabs_60 : decode cX4_hooksAndSlabs 60 = .ok (.l2i, 1) := by decide +kernel
theorem dX4_hooksAndSlabs_61 : decode cX4_hooksAndSlabs 61 = .ok (.iastore, 1) := by decide +kernel
theorem dX4_hooksAndSlabs_62 : decode cX4_hooksAndSlabs 62 = .ok (.iinc 2 1, 3) := by decide +kernel
theorem dX4_hooksAndSlabs_65 : decode cX4_hooksAndSlabs 65 = .ok (.goto (-42), 3) := by decide +kernel
theorem dX4_hooksAndSlabs_68 : decode cX4_hooksAndSlabs 68 = .ok (.aload_n 0, 1) := by decide +kernel
theorem dX4_hooksAndSlabs_69 : decode cX4_hooksAndSlabs 69 = .ok (.getfield 18, 3) := by decide +kernel
theorem dX4_hooksAndSlabs_72 : decode cX4_hooksAndSlabs 72 = .ok (.iload_n 1, 1) := by decide +kernel
theorem dX4_hooksAndSlabs_73 : decode cX4_hooksAndSlabs 73 = .ok (.iaload, 1) := by decide +kernel
theorem dX4_hooksAndSlabs_74 : decode cX4_hooksAndSlabs 74 = .ok (.ireturn, 1) := by decide +kernel
theorem dX4_hooksAlone_0 : decode cX4_hooksAlone 0 = .ok (.iload_n 1, 1) := by decide +kernel
theorem dX4_hooksAlone_1 : decode cX4_hooksAlone 1 = .ok (.iconst 3, 1) := by decide +kernel
theorem dX4_hooksAlone_2 : decode cX4_hooksAlone 2 = .ok (.irem, 1) := by decide +kernel
theorem dX4_hooksAlone_3 : decode cX4_hooksAlone 3 = .ok (.ifCond .ne 11, 3) := by decide +kernel
theorem dX4_hooksAlone_6 : decode cX4_hooksAlone 6 = .ok (.iconst 1, 1) := by decide +kernel
theorem dX4_hooksAlone_7 : decode cX4_hooksAlone 7 = .ok (.iload_n 1, 1) := by decide +kernel
theorem dX4_hooksAlone_8 : decode cX4_hooksAlone 8 = .ok (.iconst 3, 1) := by decide +kernel
theorem dX4_hooksAlone_9 : decode cX4_hooksAlone 9 = .ok (.idiv, 1) := by decide +kernel
theorem dX4_hooksAlone_10 : decode cX4_hooksAlone 10 = .ok (.ishl, 1) := by decide +kernel
theorem dX4_hooksAlone_11 : decode cX4_hooksAlone 11 = .ok (.goto 4, 3) := by decide +kernel
theorem dX4_hooksAlone_14 : decode cX4_hooksAlone 14 = .ok (.iconst 0, 1) := by decide +kernel
theorem dX4_hooksAlone_15 : decode cX4_hooksAlone 15 = .ok (.ireturn, 1) := by decide +kernel
theorem dX4_value_0 : decode cX4_value 0 = .ok (.aload_n 0, 1) := by decide +kernel
theorem dX4_value_1 : decode cX4_value 1 = .ok (.invokevirtual 53, 3) := by decide +kernel
theorem dX4_value_4 : decode cX4_value 4 = .ok (.aload_n 0, 1) := by decide +kernel
theorem dX4_value_5 : decode cX4_value 5 = .ok (.getfield 21, 3) := by decide +kernel
theorem dX4_value_8 : decode cX4_value 8 = .ok (.bipush 61, 2) := by decide +kernel
theorem dX4_value_10 : decode cX4_value 10 = .ok (.iload_n 2, 1) := by decide +kernel
theorem dX4_value_11 : decode cX4_value 11 = .ok (.imul, 1) := by decide +kernel
theorem dX4_value_12 : decode cX4_value 12 = .ok (.iload_n 1, 1) := by decide +kernel
theorem dX4_value_13 : decode cX4_value 13 = .ok (.iadd, 1) := by decide +kernel
theorem dX4_value_14 : decode cX4_value 14 = .ok (.iaload, 1) := by decide +kernel
theorem dX4_value_15 : decode cX4_value 15 = .ok (.ireturn, 1) := by decide +kernel
theorem dX4_wellGone_0 : decode cX4_wellGone 0 = .ok (.aload_n 0, 1) := by decide +kernel
theorem dX4_wellGone_1 : decode cX4_wellGone 1 = .ok (.invokevirtual 53, 3) := by decide +kernel
theorem dX4_wellGone_4 : decode cX4_wellGone 4 = .ok (.iconst (-1), 1) := by decide +kernel
theorem dX4_wellGone_5 : decode cX4_wellGone 5 = .ok (.istore_n 3, 1) := by decide +kernel
theorem dX4_wellGone_6 : decode cX4_wellGone 6 = .ok (.iconst 0, 1) := by decide +kernel
theorem dX4_wellGone_7 : decode cX4_wellGone 7 = .ok (.istore 4, 2) := by decide +kernel
theorem dX4_wellGone_9 : decode cX4_wellGone 9 = .ok (.iload 4, 2) := by decide +kernel
theorem dX4_wellGone_11 : decode cX4_wellGone 11 = .ok (.iconst 4, 1) := by decide +kernel
theorem dX4_wellGone_12 : decode cX4_wellGone 12 = .ok (.if_icmp .ge 48, 3) := by decide +kernel
theorem dX4_wellGone_15 : decode cX4_wellGone 15 = .ok (.iload_n 1, 1) := by decide +kernel
theorem dX4_wellGone_16 : decode cX4_wellGone 16 = .ok (.iload_n 2, 1) := by decide +kernel
theorem dX4_wellGone_17 : decode cX4_wellGone 17 = .ok (.iload 4, 2) := by decide +kernel
theorem dX4_wellGone_19 : decode cX4_wellGone 19 = .ok (.invokestatic 56, 3) := by decide +kernel
theorem dX4_wellGone_22 : decode cX4_wellGone 22 = .ok (.istore 5, 2) := by decide +kernel
theorem dX4_wellGone_24 : decode cX4_wellGone 24 = .ok (.iload 5, 2) := by decide +kernel
theorem dX4_wellGone_26 : decode cX4_wellGone 26 = .ok (.iconst (-1), 1) := by decide +kernel
theorem dX4_wellGone_27 : decode cX4_wellGone 27 = .ok (.if_icmp .eq 27, 3) := by decide +kernel
theorem dX4_wellGone_30 : decode cX4_wellGone 30 = .ok (.aload_n 0, 1) := by decide +kernel
theorem dX4_wellGone_31 : decode cX4_wellGone 31 = .ok (.getfield 21, 3) := by decide +kernel
theorem dX4_wellGone_34 : decode cX4_wellGone 34 = .ok (.iload 5, 2) := by decide +kernel
theorem dX4_wellGone_36 : decode cX4_wellGone 36 = .ok (.iaload, 1) := by decide +kernel
theorem dX4_wellGone_37 : decode cX4_wellGone 37 = .ok (.ifCond .ne 17, 3) := by decide +kernel
theorem dX4_wellGone_40 : decode cX4_wellGone 40 = .ok (.iload_n 3, 1) := by decide +kernel
theorem dX4_wellGone_41 : decode cX4_wellGone 41 = .ok (.iconst (-1), 1) := by decide +kernel
theorem dX4_wellGone_42 : decode cX4_wellGone 42 = .ok (.if_icmp .eq 9, 3) := by decide +kernel
theorem dX4_wellGone_45 : decode cX4_wellGone 45 = .ok (.iload 5, 2) := by decide +kernel
theorem dX4_wellGone_47 : decode cX4_wellGone 47 = .ok (.iload_n 3, 1) := by decide +kernel
theorem dX4_wellGone_48 : decode cX4_wellGone 48 = .ok (.if_icmp .ge 6, 3) := by decide +kernel
theorem dX4_wellGone_51 : decode cX4_wellGone 51 = .ok (.iload 5, 2) := by decide +kernel
theorem dX4_wellGone_53 : decode cX4_wellGone 53 = .ok (.istore_n 3, 1) := by decide +kernel
theorem dX4_wellGone_54 : decode cX4_wellGone 54 = .ok (.iinc 4 1, 3) := by decide +kernel
theorem dX4_wellGone_57 : decode cX4_wellGone 57 = .ok (.goto (-48), 3) := by decide +kernel
theorem dX4_wellGone_60 : decode cX4_wellGone 60 = .ok (.iload_n 3, 1) := by decide +kernel
theorem dX4_wellGone_61 : decode cX4_wellGone 61 = .ok (.ireturn, 1) := by decide +kernel
theorem dX4_field_0 : decode cX4_field 0 = .ok (.iload_n 0, 1) := by decide +kernel
theorem dX4_field_1 : decode cX4_field 1 = .ok (.invokestatic 60, 3) := by decide +kernel
theorem dX4_field_4 : decode cX4_field 4 = .ok (.bipush 40, 2) := by decide +kernel
theorem dX4_field_6 : decode cX4_field 6 = .ok (.if_icmp .gt 12, 3) := by decide +kernel
theorem dX4_field_9 : decode cX4_field 9 = .ok (.iload_n 1, 1) := by decide +kernel
theorem dX4_field_10 : decode cX4_field 10 = .ok (.invokestatic 60, 3) := by decide +kernel
theorem dX4_field_13 : decode cX4_field 13 = .ok (.bipush 40, 2) := by decide +kernel
theorem dX4_field_15 : decode cX4_field 15 = .ok (.if_icmp .le 5, 3) := by decide +kernel
theorem dX4_field_18 : decode cX4_field 18 = .ok (.iconst (-1), 1) := by decide +kernel
theorem dX4_field_19 : decode cX4_field 19 = .ok (.ireturn, 1) := by decide +kernel
theorem dX4_field_20 : decode cX4_field 20 = .ok (.bipush 81, 2) := by decide +kernel
theorem dX4_field_22 : decode cX4_field 22 = .ok (.iload_n 1, 1) := by decide +kernel
theorem dX4_field_23 : decode cX4_field 23 = .ok (.bipush 40, 2) := by decide +kernel
theorem dX4_field_25 : decode cX4_field 25 = .ok (.iadd, 1) := by decide +kernel
theorem dX4_field_26 : decode cX4_field 26 = .ok (.imul, 1) := by decide +kernel
theorem dX4_field_27 : decode cX4_field 27 = .ok (.iload_n 0, 1) := by decide +kernel
theorem dX4_field_28 : decode cX4_field 28 = .ok (.iadd, 1) := by decide +kernel
theorem dX4_field_29 : decode cX4_field 29 = .ok (.bipush 40, 2) := by decide +kernel
theorem dX4_field_31 : decode cX4_field 31 = .ok (.iadd, 1) := by decide +kernel
theorem dX4_field_32 : decode cX4_field 32 = .ok (.ireturn, 1) := by decide +kernel
theorem dX4_leap_0 : decode cX4_leap 0 = .ok (.iload_n 0, 1) := by decide +kernel
theorem dX4_leap_1 : decode cX4_leap 1 = .ok (.bipush 81, 2) := by decide +kernel
theorem dX4_leap_3 : decode cX4_leap 3 = .ok (.irem, 1) := by decide +kernel
theorem dX4_leap_4 : decode cX4_leap 4 = .ok (.bipush 40, 2) := by decide +kernel
theorem dX4_leap_6 : decode cX4_leap 6 = .ok (.isub, 1) := by decide +kernel
theorem dX4_leap_7 : decode cX4_leap 7 = .ok (.iload_n 3, 1) := by decide +kernel
theorem dX4_leap_8 : decode cX4_leap 8 = .ok (.iconst 1, 1) := by decide +kernel
theorem dX4_leap_9 : decode cX4_leap 9 = .ok (.iand, 1) := by decide +kernel
theorem dX4_leap_10 : decode cX4_leap 10 = .ok (.ifCond .ne 7, 3) := by decide +kernel
theorem dX4_leap_13 : decode cX4_leap 13 = .ok (.iload_n 1, 1) := by decide +kernel
theorem dX4_leap_14 : decode cX4_leap 14 = .ok (.goto 5, 3) := by decide +kernel
theorem dX4_leap_17 : decode cX4_leap 17 = .ok (.iload_n 1, 1) := by decide +kernel
theorem dX4_leap_18 : decode cX4_leap 18 = .ok (.ineg, 1) := by decide +kernel
theorem dX4_leap_19 : decode cX4_leap 19 = .ok (.iadd, 1) := by decide +kernel
theorem dX4_leap_20 : decode cX4_leap 20 = .ok (.istore 4, 2) := by decide +kernel
theorem dX4_leap_22 : decode cX4_leap 22 = .ok (.iload_n 0, 1) := by decide +kernel
theorem dX4_leap_23 : decode cX4_leap 23 = .ok (.bipush 81, 2) := by decide +kernel
theorem dX4_leap_25 : decode cX4_leap 25 = .ok (.idiv, 1) := by decide +kernel
theorem dX4_leap_26 : decode cX4_leap 26 = .ok (.bipush 40, 2) := by decide +kernel
theorem dX4_leap_28 : decode cX4_leap 28 = .ok (.isub, 1) := by decide +kernel
theorem dX4_leap_29 : decode cX4_leap 29 = .ok (.iload_n 3, 1) := by decide +kernel
theorem dX4_leap_30 : decode cX4_leap 30 = .ok (.iconst 2, 1) := by decide +kernel
theorem dX4_leap_31 : decode cX4_leap 31 = .ok (.iand, 1) := by decide +kernel
theorem dX4_leap_32 : decode cX4_leap 32 = .ok (.ifCond .ne 7, 3) := by decide +kernel
theorem dX4_leap_35 : decode cX4_leap 35 = .ok (.iload_n 2, 1) := by decide +kernel
theorem dX4_leap_36 : decode cX4_leap 36 = .ok (.goto 5, 3) := by decide +kernel
theorem dX4_leap_39 : decode cX4_leap 39 = .ok (.iload_n 2, 1) := by decide +kernel
theorem dX4_leap_40 : decode cX4_leap 40 = .ok (.ineg, 1) := by decide +kernel
theorem dX4_leap_41 : decode cX4_leap 41 = .ok (.iadd, 1) := by decide +kernel
theorem dX4_leap_42 : decode cX4_leap 42 = .ok (.istore 5, 2) := by decide +kernel
theorem dX4_leap_44 : decode cX4_leap 44 = .ok (.iload 4, 2) := by decide +kernel
theorem dX4_leap_46 : decode cX4_leap 46 = .ok (.iload 5, 2) := by decide +kernel
theorem dX4_leap_48 : decode cX4_leap 48 = .ok (.invokestatic 30, 3) := by decide +kernel
theorem dX4_leap_51 : decode cX4_leap 51 = .ok (.ireturn, 1) := by decide +kernel
theorem dX4_gone_0 : decode cX4_gone 0 = .ok (.iload_n 0, 1) := by decide +kernel
theorem dX4_gone_1 : decode cX4_gone 1 = .ok (.getstatic 64, 3) := by decide +kernel
theorem dX4_gone_4 : decode cX4_gone 4 = .ok (.iload_n 2, 1) := by decide +kernel
theorem dX4_gone_5 : decode cX4_gone 5 = .ok (.iconst 3, 1) := by decide +kernel
theorem dX4_gone_6 : decode cX4_gone 6 = .ok (.iand, 1) := by decide +kernel
theorem dX4_gone_7 : decode cX4_gone 7 = .ok (.iaload, 1) := by decide +kernel
theorem dX4_gone_8 : decode cX4_gone 8 = .ok (.iadd, 1) := by decide +kernel
theorem dX4_gone_9 : decode cX4_gone 9 = .ok (.istore_n 3, 1) := by decide +kernel
theorem dX4_gone_10 : decode cX4_gone 10 = .ok (.iload_n 1, 1) := by decide +kernel
theorem dX4_gone_11 : decode cX4_gone 11 = .ok (.getstatic 67, 3) := by decide +kernel
theorem dX4_gone_14 : decode cX4_gone 14 = .ok (.iload_n 2, 1) := by decide +kernel
theorem dX4_gone_15 : decode cX4_gone 15 = .ok (.iconst 3, 1) := by decide +kernel
theorem dX4_gone_16 : decode cX4_gone 16 = .ok (.iand, 1) := by decide +kernel
theorem dX4_gone_17 : decode cX4_gone 17 = .ok (.iaload, 1) := by decide +kernel
theorem dX4_gone_18 : decode cX4_gone 18 = .ok (.iadd, 1) := by decide +kernel
theorem dX4_gone_19 : decode cX4_gone 19 = .ok (.istore 4, 2) := by decide +kernel
theorem dX4_gone_21 : decode cX4_gone 21 = .ok (.iload_n 3, 1) := by decide +kernel
theorem dX4_gone_22 : decode cX4_gone 22 = .ok (.ifCond .lt 8, 3) := by decide +kernel
theorem dX4_gone_25 : decode cX4_gone 25 = .ok (.iload 4, 2) := by decide +kernel
theorem dX4_gone_27 : decode cX4_gone 27 = .ok (.ifCond .ge 7, 3) := by decide +kernel
theorem dX4_gone_30 : decode cX4_gone 30 = .ok (.iconst (-1), 1) := by decide +kernel
theorem dX4_gone_31 : decode cX4_gone 31 = .ok (.goto 10, 3) := by decide +kernel
theorem dX4_gone_34 : decode cX4_gone 34 = .ok (.bipush 61, 2) := by decide +kernel
theorem dX4_gone_36 : decode cX4_gone 36 = .ok (.iload 4, 2) := by decide +kernel
theorem dX4_gone_38 : decode cX4_gone 38 = .ok (.imul, 1) := by decide +kernel
theorem dX4_gone_39 : decode cX4_gone 39 = .ok (.iload_n 3, 1) := by decide +kernel
theorem dX4_gone_40 : decode cX4_gone 40 = .ok (.iadd, 1) := by decide +kernel
theorem dX4_gone_41 : decode cX4_gone 41 = .ok (.ireturn, 1) := by decide +kernel
theorem dX4_leastMissing_0 : decode cX4_leastMissing 0 = .ok (.iconst 0, 1) := by decide +kernel
theorem dX4_leastMissing_1 : decode cX4_leastMissing 1 = .ok (.istore_n 1, 1) := by decide +kernel
theorem dX4_leastMissing_2 : decode cX4_leastMissing 2 = .ok (.iload_n 1, 1) := by decide +kernel
theorem dX4_leastMissing_3 : decode cX4_leastMissing 3 = .ok (.iconst 4, 1) := by decide +kernel
theorem dX4_leastMissing_4 : decode cX4_leastMissing 4 = .ok (.if_icmp .ge 18, 3) := by decide +kernel
theorem dX4_leastMissing_7 : decode cX4_leastMissing 7 = .ok (.iload_n 0, 1) := by decide +kernel
theorem dX4_leastMissing_8 : decode cX4_leastMissing 8 = .ok (.iload_n 1, 1) := by decide +kernel
theorem dX4_leastMissing_9 : decode cX4_leastMissing 9 = .ok (.ishr, 1) := by decide +kernel
theorem dX4_leastMissing_10 : decode cX4_leastMissing 10 = .ok (.iconst 1, 1) := by decide +kernel
theorem dX4_leastMissing_11 : decode cX4_leastMissing 11 = .ok (.iand, 1) := by decide +kernel
theorem dX4_leastMissing_12 : decode cX4_leastMissing 12 = .ok (.iconst 1, 1) := by decide +kernel
theorem dX4_leastMissing_13 : decode cX4_leastMissing 13 = .ok (.if_icmp .ne 9, 3) := by decide +kernel
theorem dX4_leastMissing_16 : decode cX4_leastMissing 16 = .ok (.iinc 1 1, 3) := by decide +kernel
theorem dX4_leastMissing_19 : decode cX4_leastMissing 19 = .ok (.goto (-17), 3) := by decide +kernel
theorem dX4_leastMissing_22 : decode cX4_leastMissing 22 = .ok (.iload_n 1, 1) := by decide +kernel
theorem dX4_leastMissing_23 : decode cX4_leastMissing 23 = .ok (.ireturn, 1) := by decide +kernel
theorem dX4_valueAll_0 : decode cX4_valueAll 0 = .ok (.iconst 0, 1) := by decide +kernel
theorem dX4_valueAll_1 : decode cX4_valueAll 1 = .ok (.istore_n 1, 1) := by decide +kernel
theorem dX4_valueAll_2 : decode cX4_valueAll 2 = .ok (.iload_n 1, 1) := by decide +kernel
theorem dX4_valueAll_3 : decode cX4_valueAll 3 = .ok (.bipush 61, 2) := by decide +kernel
theorem dX4_valueAll_5 : decode cX4_valueAll 5 = .ok (.if_icmp .ge 100, 3) := by decide +kernel
theorem dX4_valueAll_8 : decode cX4_valueAll 8 = .ok (.aload_n 0, 1) := by decide +kernel
theorem dX4_valueAll_9 : decode cX4_valueAll 9 = .ok (.getfield 70, 3) := by decide +kernel
theorem dX4_valueAll_12 : decode cX4_valueAll 12 = .ok (.ifCond .ne 93, 3) := by decide +kernel
theorem dX4_valueAll_15 : decode cX4_valueAll 15 = .ok (.iconst 0, 1) := by decide +kernel
theorem dX4_valueAll_16 : decode cX4_valueAll 16 = .ok (.istore_n 2, 1) := by decide +kernel
theorem dX4_valueAll_17 : decode cX4_valueAll 17 = .ok (.iload_n 2, 1) := by decide +kernel
theorem dX4_valueAll_18 : decode cX4_valueAll 18 = .ok (.iload_n 1, 1) := by decide +kernel
theorem dX4_valueAll_19 : decode cX4_valueAll 19 = .ok (.if_icmp .gt 80, 3) := by decide +kernel
theorem dX4_valueAll_22 : decode cX4_valueAll 22 = .ok (.iload_n 1, 1) := by decide +kernel
theorem dX4_valueAll_23 : decode cX4_valueAll 23 = .ok (.iload_n 2, 1) := by decide +kernel
theorem dX4_valueAll_24 : decode cX4_valueAll 24 = .ok (.isub, 1) := by decide +kernel
theorem dX4_valueAll_25 : decode cX4_valueAll 25 = .ok (.istore_n 3, 1) := by decide +kernel
theorem dX4_valueAll_26 : decode cX4_valueAll 26 = .ok (.iconst 0, 1) := by decide +kernel
theorem dX4_valueAll_27 : decode cX4_valueAll 27 = .ok (.istore 4, 2) := by decide +kernel
theorem dX4_valueAll_29 : decode cX4_valueAll 29 = .ok (.iconst 0, 1) := by decide +kernel
theorem dX4_valueAll_30 : decode cX4_valueAll 30 = .ok (.istore 5, 2) := by decide +kernel
theorem dX4_valueAll_32 : decode cX4_valueAll 32 = .ok (.iload 5, 2) := by decide +kernel
theorem dX4_valueAll_34 : decode cX4_valueAll 34 = .ok (.iconst 4, 1) := by decide +kernel
theorem dX4_valueAll_35 : decode cX4_valueAll 35 = .ok (.if_icmp .ge 42, 3) := by decide +kernel
theorem dX4_valueAll_38 : decode cX4_valueAll 38 = .ok (.iload_n 2, 1) := by decide +kernel
theorem dX4_valueAll_39 : decode cX4_valueAll 39 = .ok (.iload_n 3, 1) := by decide +kernel
theorem dX4_valueAll_40 : decode cX4_valueAll 40 = .ok (.iload 5, 2) := by decide +kernel
theorem dX4_valueAll_42 : decode cX4_valueAll 42 = .ok (.invokestatic 56, 3) := by decide +kernel
theorem dX4_valueAll_45 : decode cX4_valueAll 45 = .ok (.istore 6, 2) := by decide +kernel
theorem dX4_valueAll_47 : decode cX4_valueAll 47 = .ok (.iload 4, 2) := by decide +kernel
theorem dX4_valueAll_49 : decode cX4_valueAll 49 = .ok (.iload 6, 2) := by decide +kernel
theorem dX4_valueAll_51 : decode cX4_valueAll 51 = .ok (.iconst (-1), 1) := by decide +kernel
theorem dX4_valueAll_52 : decode cX4_valueAll 52 = .ok (.if_icmp .ne 7, 3) := by decide +kernel
theorem dX4_valueAll_55 : decode cX4_valueAll 55 = .ok (.iconst 0, 1) := by decide +kernel
theorem dX4_valueAll_56 : decode cX4_valueAll 56 = .ok (.goto 12, 3) := by decide +kernel
theorem dX4_valueAll_59 : decode cX4_valueAll 59 = .ok (.iconst 1, 1) := by decide +kernel
theorem dX4_valueAll_60 : decode cX4_valueAll 60 = .ok (.aload_n 0, 1) := by decide +kernel
theorem dX4_valueAll_61 : decode cX4_valueAll 61 = .ok (.getfield 21, 3) := by decide +kernel
theorem dX4_valueAll_64 : decode cX4_valueAll 64 = .ok (.iload 6, 2) := by decide +kernel
theorem dX4_valueAll_66 : decode cX4_valueAll 66 = .ok (.iaload, 1) := by decide +kernel
theorem dX4_valueAll_67 : decode cX4_valueAll 67 = .ok (.ishl, 1) := by decide +kernel
theorem dX4_valueAll_68 : decode cX4_valueAll 68 = .ok (.ior, 1) := by decide +kernel
theorem dX4_valueAll_69 : decode cX4_valueAll 69 = .ok (.istore 4, 2) := by decide +kernel
theorem dX4_valueAll_71 : decode cX4_valueAll 71 = .ok (.iinc 5 1, 3) := by decide +kernel
theorem dX4_valueAll_74 : decode cX4_valueAll 74 = .ok (.goto (-42), 3) := by decide +kernel
theorem dX4_valueAll_77 : decode cX4_valueAll 77 = .ok (.aload_n 0, 1) := by decide +kernel
theorem dX4_valueAll_78 : decode cX4_valueAll 78 = .ok (.getfield 21, 3) := by decide +kernel
theorem dX4_valueAll_81 : decode cX4_valueAll 81 = .ok (.bipush 61, 2) := by decide +kernel
theorem dX4_valueAll_83 : decode cX4_valueAll 83 = .ok (.iload_n 3, 1) := by decide +kernel
theorem dX4_valueAll_84 : decode cX4_valueAll 84 = .ok (.imul, 1) := by decide +kernel
theorem dX4_valueAll_85 : decode cX4_valueAll 85 = .ok (.iload_n 2, 1) := by decide +kernel
theorem dX4_valueAll_86 : decode cX4_valueAll 86 = .ok (.iadd, 1) := by decide +kernel
theorem dX4_valueAll_87 : decode cX4_valueAll 87 = .ok (.iload 4, 2) := by decide +kernel
theorem dX4_valueAll_89 : decode cX4_valueAll 89 = .ok (.invokestatic 74, 3) := by decide +kernel
theorem dX4_valueAll_92 : decode cX4_valueAll 92 = .ok (.iastore, 1) := by decide +kernel
theorem dX4_valueAll_93 : decode cX4_valueAll 93 = .ok (.iinc 2 1, 3) := by decide +kernel
theorem dX4_valueAll_96 : decode cX4_valueAll 96 = .ok (.goto (-79), 3) := by decide +kernel
theorem dX4_valueAll_99 : decode cX4_valueAll 99 = .ok (.iinc 1 1, 3) := by decide +kernel
theorem dX4_valueAll_102 : decode cX4_valueAll 102 = .ok (.goto (-100), 3) := by decide +kernel
theorem dX4_valueAll_105 : decode cX4_valueAll 105 = .ok (.aload_n 0, 1) := by decide +kernel
theorem dX4_valueAll_106 : decode cX4_valueAll 106 = .ok (.iconst 1, 1) := by decide +kernel
theorem dX4_valueAll_107 : decode cX4_valueAll 107 = .ok (.putfield 70, 3) := by decide +kernel
theorem dX4_valueAll_110 : decode cX4_valueAll 110 = .ok (.return_, 1) := by decide +kernel
theorem dX5_init_0 : decode cX5_init 0 = .ok (.aload_n 0, 1) := by decide +kernel
theorem dX5_init_1 : decode cX5_init 1 = .ok (.invokespecial 3, 3) := by decide +kernel
theorem dX5_init_4 : decode cX5_init 4 = .ok (.aload_n 0, 1) := by decide +kernel
theorem dX5_init_5 : decode cX5_init 5 = .ok (.iconst (-1), 1) := by decide +kernel
theorem dX5_init_6 : decode cX5_init 6 = .ok (.putfield 9, 3) := by decide +kernel
theorem dX5_init_9 : decode cX5_init 9 = .ok (.aload_n 0, 1) := by decide +kernel
theorem dX5_init_10 : decode cX5_init 10 = .ok (.sipush 400, 3) := by decide +kernel
theorem dX5_init_13 : decode cX5_init 13 = .ok (.newarray .int, 2) := by decide +kernel
theorem dX5_init_15 : decode cX5_init 15 = .ok (.putfield 15, 3) := by decide +kernel
theorem dX5_init_18 : decode cX5_init 18 = .ok (.aload_n 0, 1) := by decide +kernel
theorem dX5_init_19 : decode cX5_init 19 = .ok (.sipush 401, 3) := by decide +kernel
theorem dX5_init_22 : decode cX5_init 22 = .ok (.newarray .int, 2) := by decide +kernel
theorem dX5_init_24 : decode cX5_init 24 = .ok (.putfield 19, 3) := by decide +kernel
theorem dX5_init_27 : decode cX5_init 27 = .ok (.aload_n 0, 1) := by decide +kernel
theorem dX5_init_28 : decode cX5_init 28 = .ok (.sipush 401, 3) := by decide +kernel
theorem dX5_init_31 : decode cX5_init 31 = .ok (.newarray .int, 2) := by decide +kernel
theorem dX5_init_33 : decode cX5_init 33 = .ok (.putfield 22, 3) := by decide +kernel
theorem dX5_init_36 : decode cX5_init 36 = .ok (.aload_n 0, 1) := by decide +kernel
theorem dX5_init_37 : decode cX5_init 37 = .ok (.sipush 401, 3) := by decide +kernel
theorem dX5_init_40 : decode cX5_init 40 = .ok (.newarray .int, 2) := by decide +kernel
theorem dX5_init_42 : decode cX5_init 42 = .ok (.putfield 25, 3) := by decide +kernel
theorem dX5_init_45 : decode cX5_init 45 = .ok (.return_, 1) := by decide +kernel
theorem dX5_put_0 : decode cX5_put 0 = .ok (.bipush 24, 2) := by decide +kernel
theorem dX5_put_2 : decode cX5_put 2 = .ok (.istore_n 2, 1) := by decide +kernel
theorem dX5_put_3 : decode cX5_put 3 = .ok (.iload_n 2, 1) := by decide +kernel
theorem dX5_put_4 : decode cX5_put 4 = .ok (.ifCond .lt 45, 3) := by decide +kernel
theorem dX5_put_7 : decode cX5_put 7 = .ok (.aload_n 0, 1) := by decide +kernel
theorem dX5_put_8 : decode cX5_put 8 = .ok (.getfield 28, 3) := by decide +kernel
theorem dX5_put_11 : decode cX5_put 11 = .ok (.sipush 400, 3) := by decide +kernel
theorem dX5_put_14 : decode cX5_put 14 = .ok (.if_icmp .ge 35, 3) := by decide +kernel
theorem dX5_put_17 : decode cX5_put 17 = .ok (.aload_n 0, 1) := by decide +kernel
theorem dX5_put_18 : decode cX5_put 18 = .ok (.getfield 15, 3) := by decide +kernel
theorem dX5_put_21 : decode cX5_put 21 = .ok (.aload_n 0, 1) := by decide +kernel
theorem dX5_put_22 : decode cX5_put 22 = .ok (.getfield 28, 3) := by decide +kernel
theorem dX5_put_25 : decode cX5_put 25 = .ok (.iload_n 1, 1) := by decide +kernel
theorem dX5_put_26 : decode cX5_put 26 = .ok (.iload_n 2, 1) := by decide +kernel
theorem dX5_put_27 : decode cX5_put 27 = .ok (.iushr, 1) := by decide +kernel
theorem dX5_put_28 : decode cX5_put 28 = .ok (.sipush 255, 3) := by decide +kernel
theorem dX5_put_31 : decode cX5_put 31 = .ok (.iand, 1) := by decide +kernel
theorem dX5_put_32 : decode cX5_put 32 = .ok (.iastore, 1) := by decide +kernel
theorem dX5_put_33 : decode cX5_put 33 = .ok (.aload_n 0, 1) := by decide +kernel
theorem dX5_put_34 : decode cX5_put 34 = .ok (.dup, 1) := by decide +kernel
theorem dX5_put_35 : decode cX5_put 35 = .ok (.getfield 28, 3) := by decide +kernel
theorem dX5_put_38 : decode cX5_put 38 = .ok (.iconst 1, 1) := by decide +kernel
theorem dX5_put_39 : decode cX5_put 39 = .ok (.iadd, 1) := by decide +kernel
theorem dX5_put_40 : decode cX5_put 40 = .ok (.putfield 28, 3) := by decide +kernel
theorem dX5_put_43 : decode cX5_put 43 = .ok (.iinc 2 (-8), 3) := by decide +kernel
theorem dX5_put_46 : decode cX5_put 46 = .ok (.goto (-43), 3) := by decide +kernel
theorem dX5_put_49 : decode cX5_put 49 = .ok (.return_, 1) := by decide +kernel
theorem dX5_scan_0 : decode cX5_scan 0 = .ok (.aload_n 0, 1) := by decide +kernel
theorem dX5_scan_1 : decode cX5_scan 1 = .ok (.iconst 0, 1) := by decide +kernel
theorem dX5_scan_2 : decode cX5_scan 2 = .ok (.putfield 31, 3) := by decide +kernel
theorem dX5_scan_5 : decode cX5_scan 5 = .ok (.aload_n 0, 1) := by decide +kernel
theorem dX5_scan_6 : decode cX5_scan 6 = .ok (.iconst (-1), 1) := by decide +kernel
theorem dX5_scan_7 : decode cX5_scan 7 = .ok (.putfield 9, 3) := by decide +kernel
theorem dX5_scan_10 : decode cX5_scan 10 = .ok (.aload_n 0, 1) := by decide +kernel
theorem dX5_scan_11 : decode cX5_scan 11 = .ok (.iconst 0, 1) := by decide +kernel
theorem dX5_scan_12 : decode cX5_scan 12 = .ok (.putfield 34, 3) := by decide +kernel
theorem dX5_scan_15 : decode cX5_scan 15 = .ok (.iconst 0, 1) := by decide +kernel
theorem dX5_scan_16 : decode cX5_scan 16 = .ok (.istore_n 1, 1) := by decide +kernel
theorem dX5_scan_17 : decode cX5_scan 17 = .ok (.iconst 0, 1) := by decide +kernel
theorem dX5_scan_18 : decode cX5_scan 18 = .ok (.istore_n 3, 1) := by decide +kernel
theorem dX5_scan_19 : decode cX5_scan 19 = .ok (.iload_n 3, 1) := by decide +kernel
theorem dX5_scan_20 : decode cX5_scan 20 = .ok (.aload_n 0, 1) := by decide +kernel
theorem dX5_scan_21 : decode cX5_scan 21 = .ok (.getfield 28, 3) := by decide +kernel
theorem dX5_scan_24 : decode cX5_scan 24 = .ok (.if_icmp .ge 154, 3) := by decide +kernel
theorem dX5_scan_27 : decode cX5_scan 27 = .ok (.iload_n 3, 1) := by decide +kernel
theorem dX5_scan_28 : decode cX5_scan 28 = .ok (.iconst 1, 1) := by decide +kernel
theorem dX5_scan_29 : decode cX5_scan 29 = .ok (.iadd, 1) := by decide +kernel
theorem dX5_scan_30 : decode cX5_scan 30 = .ok (.istore_n 2, 1) := by decide +kernel
theorem dX5_scan_31 : decode cX5_scan 31 = .ok (.aload_n 0, 1) := by decide +kernel
theorem dX5_scan_32 : decode cX5_scan 32 = .ok (.getfield 15, 3) := by decide +kernel
theorem dX5_scan_35 : decode cX5_scan 35 = .ok (.iload_n 3, 1) := by decide +kernel
theorem dX5_scan_36 : decode cX5_scan 36 = .ok (.iaload, 1) := by decide +kernel
theorem dX5_scan_37 : decode cX5_scan 37 = .ok (.istore 4, 2) := by decide +kernel
theorem dX5_scan_39 : decode cX5_scan 39 = .ok (.iload 4, 2) := by decide +kernel
theorem dX5_scan_41 : decode cX5_scan 41 = .ok (.bipush 32, 2) := by decide +kernel
theorem dX5_scan_43 : decode cX5_scan 43 = .ok (.if_icmp .eq 130, 3) := by decide +kernel
theorem dX5_scan_46 : decode cX5_scan 46 = .ok (.iload 4, 2) := by decide +kernel
theorem dX5_scan_48 : decode cX5_scan 48 = .ok (.bipush 10, 2) := by decide +kernel
theorem dX5_scan_50 : decode cX5_scan 50 = .ok (.if_icmp .ne 6, 3) := by decide +kernel
theorem dX5_scan_53 : decode cX5_scan 53 = .ok (.goto 120, 3) := by decide +kernel
theorem dX5_scan_56 : decode cX5_scan 56 = .ok (.aload_n 0, 1) := by decide +kernel
theorem dX5_scan_57 : decode cX5_scan 57 = .ok (.getfield 25, 3) := by decide +kernel
theorem dX5_scan_60 : decode cX5_scan 60 = .ok (.iload_n 1, 1) := by decide +kernel
theorem dX5_scan_61 : decode cX5_scan 61 = .ok (.iload_n 3, 1) := by decide +kernel
theorem dX5_scan_62 : decode cX5_scan 62 = .ok (.iastore, 1) := by decide +kernel
theorem dX5_scan_63 : decode cX5_scan 63 = .ok (.iload 4, 2) := by decide +kernel
theorem dX5_scan_65 : decode cX5_scan 65 = .ok (.invokestatic 37, 3) := by decide +kernel
theorem dX5_scan_68 : decode cX5_scan 68 = .ok (.ifCond .eq 28, 3) := by decide +kernel
theorem dX5_scan_71 : decode cX5_scan 71 = .ok (.iload_n 2, 1) := by decide +kernel
theorem dX5_scan_72 : decode cX5_scan 72 = .ok (.aload_n 0, 1) := by decide +kernel
theorem dX5_scan_73 : decode cX5_scan 73 = .ok (.iload_n 3, 1) := by decide +kernel
theorem dX5_scan_74 : decode cX5_scan 74 = .ok (.invokevirtual 41, 3) := by decide +kernel
theorem dX5_scan_77 : decode cX5_scan 77 = .ok (.invokestatic 45, 3) := by decide +kernel
theorem dX5_scan_80 : decode cX5_scan 80 = .ok (.istore_n 2, 1) := by decide +kernel
theorem dX5_scan_81 : decode cX5_scan 81 = .ok (.aload_n 0, 1) := by decide +kernel
theorem dX5_scan_82 : decode cX5_scan 82 = .ok (.getfield 19, 3) := by decide +kernel
theorem dX5_scan_85 : decode cX5_scan 85 = .ok (.iload_n 1, 1) := by decide +kernel
theorem dX5_scan_86 : decode cX5_scan 86 = .ok (.aload_n 0, 1) := by decide +kernel
theorem dX5_scan_87 : decode cX5_scan 87 = .ok (.iload_n 3, 1) := by decide +kernel
theorem dX5_scan_88 : decode cX5_scan 88 = .ok (.iload_n 2, 1) := by decide +kernel
theorem dX5_scan_89 : decode cX5_scan 89 = .ok (.invokevirtual 51, 3) := by decide +kernel
theorem dX5_scan_92 : decode cX5_scan 92 = .ok (.iastore, 1) := by decide +kernel
theorem dX5_scan_93 : decode cX5_scan 93 = .ok (.goto 77, 3) := by decide +kernel
theorem dX5_scan_96 : decode cX5_scan 96 = .ok (.iload 4, 2) := by decide +kernel
theorem dX5_scan_98 : decode cX5_scan 98 = .ok (.invokestatic 54, 3) := by decide +kernel
theorem dX5_scan_101 : decode cX5_scan 101 = .ok (.ifCond .eq 46, 3) := by decide +kernel
theorem dX5_scan_104 : decode cX5_scan 104 = .ok (.iload_n 2, 1) := by decide +kernel
theorem dX5_scan_105 : decode cX5_scan 105 = .ok (.aload_n 0, 1) := by decide +kernel
theorem dX5_scan_106 : decode cX5_scan 106 = .ok (.iload_n 3, 1) := by decide +kernel
theorem dX5_scan_107 : decode cX5_scan 107 = .ok (.invokevirtual 57, 3) := by decide +kernel
theorem dX5_scan_110 : decode cX5_scan 110 = .ok (.invokestatic 45, 3) := by decide +kernel
theorem dX5_scan_113 : decode cX5_scan 113 = .ok (.istore_n 2, 1) := by decide +kernel
theorem dX5_scan_114 : decode cX5_scan 114 = .ok (.aload_n 0, 1) := by decide +kernel
theorem dX5_scan_115 : decode cX5_scan 115 = .ok (.getfield 19, 3) := by decide +kernel
theorem dX5_scan_118 : decode cX5_scan 118 = .ok (.iload_n 1, 1) := by decide +kernel
theorem dX5_scan_119 : decode cX5_scan 119 = .ok (.iload_n 2, 1) := by decide +kernel
theorem dX5_scan_120 : decode cX5_scan 120 = .ok (.iload_n 3, 1) := by decide +kernel
theorem dX5_scan_121 : decode cX5_scan 121 = .ok (.isub, 1) := by decide +kernel
theorem dX5_scan_122 : decode cX5_scan 122 = .ok (.iconst 4, 1) := by decide +kernel
theorem dX5_scan_123 : decode cX5_scan 123 = .ok (.if_icmp .le 7, 3) := by decide +kernel
theorem dX5_scan_126 : decode cX5_scan 126 = .ok (.iconst 1, 1) := by decide +kernel
theorem dX5_scan_127 : decode cX5_scan 127 = .ok (.goto 4, 3) := by decide +kernel
theorem dX5_scan_130 : decode cX5_scan 130 = .ok (.iconst 2, 1) := by decide +kernel
theorem dX5_scan_131 : decode cX5_scan 131 = .ok (.iastore, 1) := by decide +kernel
theorem dX5_scan_132 : decode cX5_scan 132 = .ok (.aload_n 0, 1) := by decide +kernel
theorem dX5_scan_133 : decode cX5_scan 133 = .ok (.getfield 22, 3) := by decide +kernel
theorem dX5_scan_136 : decode cX5_scan 136 = .ok (.iload_n 1, 1) := by decide +kernel
theorem dX5_scan_137 : decode cX5_scan 137 = .ok (.aload_n 0, 1) := by decide +kernel
theorem dX5_scan_138 : decode cX5_scan 138 = .ok (.iload_n 3, 1) := by decide +kernel
theorem dX5_scan_139 : decode cX5_scan 139 = .ok (.iload_n 2, 1) := by decide +kernel
theorem dX5_scan_140 : decode cX5_scan 140 = .ok (.invokevirtual 60, 3) := by decide +kernel
theorem dX5_scan_143 : decode cX5_scan 143 = .ok (.iastore, 1) := by decide +kernel
theorem dX5_scan_144 : decode cX5_scan 144 = .ok (.goto 26, 3) := by decide +kernel
theorem dX5_scan_147 : decode cX5_scan 147 = .ok (.aload_n 0, 1) := by decide +kernel
theorem dX5_scan_148 : decode cX5_scan 148 = .ok (.getfield 19, 3) := by decide +kernel
theorem dX5_scan_151 : decode cX5_scan 151 = .ok (.iload_n 1, 1) := by decide +kernel
theorem dX5_scan_152 : decode cX5_scan 152 = .ok (.ldc 63, 2) := by decide +kernel
theorem dX5_scan_154 : decode cX5_scan 154 = .ok (.iload 4, 2) := by decide +kernel
theorem dX5_scan_156 : decode cX5_scan 156 = .ok (.i2c, 1) := by decide +kernel
theorem dX5_scan_157 : decode cX5_scan 157 = .ok (.invokevirtual 65, 3) := by decide +kernel
theorem dX5_scan_160 : decode cX5_scan 160 = .ok (.ifCond .ge 7, 3) := by decide +kernel
theorem dX5_scan_163 : decode cX5_scan 163 = .ok (.iconst 1, 1) := by decide +kernel
theorem dX5_scan_164 : decode cX5_scan 164 = .ok (.goto 5, 3) := by decide +kernel
theorem dX5_scan_167 : decode cX5_scan 167 = .ok (.iload 4, 2) := by decide +kernel
theorem dX5_scan_169 : decode cX5_scan 169 = .ok (.iastore, 1) := by decide +kernel
theorem dX5_scan_170 : decode cX5_scan 170 = .ok (.iinc 1 1, 3) := by decide +kernel
theorem dX5_scan_173 : decode cX5_scan 173 = .ok (.iload_n 2, 1) := by decide +kernel
theorem dX5_scan_174 : decode cX5_scan 174 = .ok (.istore_n 3, 1) := by decide +kernel
theorem dX5_scan_175 : decode cX5_scan 175 = .ok (.goto (-156), 3) := by decide +kernel
theorem dX5_scan_178 : decode cX5_scan 178 = .ok (.aload_n 0, 1) := by decide +kernel
theorem dX5_scan_179 : decode cX5_scan 179 = .ok (.getfield 19, 3) := by decide +kernel
theorem dX5_scan_182 : decode cX5_scan 182 = .ok (.iload_n 1, 1) := by decide +kernel
theorem dX5_scan_183 : decode cX5_scan 183 = .ok (.iconst 0, 1) := by decide +kernel
theorem dX5_scan_184 : decode cX5_scan 184 = .ok (.iastore, 1) := by decide +kernel
theorem dX5_scan_185 : decode cX5_scan 185 = .ok (.aload_n 0, 1) := by decide +kernel
theorem dX5_scan_186 : decode cX5_scan 186 = .ok (.getfield 25, 3) := by decide +kernel
theorem dX5_scan_189 : decode cX5_scan 189 = .ok (.iload_n 1, 1) := by decide +kernel
theorem dX5_scan_190 : decode cX5_scan 190 = .ok (.aload_n 0, 1) := by decide +kernel
theorem dX5_scan_191 : decode cX5_scan 191 = .ok (.getfield 28, 3) := by decide +kernel
theorem dX5_scan_194 : decode cX5_scan 194 = .ok (.iastore, 1) := by decide +kernel
theorem dX5_scan_195 : decode cX5_scan 195 = .ok (.return_, 1) := by decide +kernel
theorem dX5_kind_0 : decode cX5_kind 0 = .ok (.aload_n 0, 1) := by decide +kernel
theorem dX5_kind_1 : decode cX5_kind 1 = .ok (.getfield 19, 3) := by decide +kernel
theorem dX5_kind_4 : decode cX5_kind 4 = .ok (.aload_n 0, 1) := by decide +kernel
theorem dX5_kind_5 : decode cX5_kind 5 = .ok (.getfield 34, 3) := by decide +kernel
theorem dX5_kind_8 : decode cX5_kind 8 = .ok (.iaload, 1) := by decide +kernel
theorem dX5_kind_9 : decode cX5_kind 9 = .ok (.ireturn, 1) := by decide +kernel
theorem dX5_next_0 : decode cX5_next 0 = .ok (.aload_n 0, 1) := by decide +kernel
theorem dX5_next_1 : decode cX5_next 1 = .ok (.getfield 34, 3) := by decide +kernel
theorem dX5_next_4 : decode cX5_next 4 = .ok (.sipush 400, 3) := by decide +kernel
theorem dX5_next_7 : decode cX5_next 7 = .ok (.if_icmp .ge 13, 3) := by decide +kernel
theorem dX5_next_10 : decode cX5_next 10 = .ok (.aload_n 0, 1) := by decide +kernel
theorem dX5_next_11 : decode cX5_next 11 = .ok (.dup, 1) := by decide +kernel
theorem dX5_next_12 : decode cX5_next 12 = .ok (.getfield 34, 3) := by decide +kernel
theorem dX5_next_15 : decode cX5_next 15 = .ok (.iconst 1, 1) := by decide +kernel
theorem dX5_next_16 : decode cX5_next 16 = .ok (.iadd, 1) := by decide +kernel
theorem dX5_next_17 : decode cX5_next 17 = .ok (.putfield 34, 3) := by decide +kernel
theorem dX5_next_20 : decode cX5_next 20 = .ok (.return_, 1) := by decide +kernel
theorem dX5_fail_0 : decode cX5_fail 0 = .ok (.aload_n 0, 1) := by decide +kernel
theorem dX5_fail_1 : decode cX5_fail 1 = .ok (.iload_n 1, 1) := by decide +kernel
theorem dX5_fail_2 : decode cX5_fail 2 = .ok (.putfield 31, 3) := by decide +kernel
theorem dX5_fail_5 : decode cX5_fail 5 = .ok (.aload_n 0, 1) := by decide +kernel
theorem dX5_fail_6 : decode cX5_fail 6 = .ok (.aload_n 0, 1) := by decide +kernel
theorem dX5_fail_7 : decode cX5_fail 7 = .ok (.getfield 25, 3) := by decide +kernel
theorem dX5_fail_10 : decode cX5_fail 10 = .ok (.aload_n 0, 1) := by decide +kernel
theorem dX5_fail_11 : decode cX5_fail 11 = .ok (.getfield 34, 3) := by decide +kernel
theorem dX5_fail_14 : decode cX5_fail 14 = .ok (.iaload, 1) := by decide +kernel
theorem dX5_fail_15 : decode cX5_fail 15 = .ok (.putfield 9, 3) := by decide +kernel
theorem dX5_fail_18 : decode cX5_fail 18 = .ok (.iconst 0, 1) := by decide +kernel
theorem dX5_fail_19 : decode cX5_fail 19 = .ok (.ireturn, 1) := by decide +kernel
theorem dX5_take_0 : decode cX5_take 0 = .ok (.aload_n 0, 1) := by decide +kernel
theorem dX5_take_1 : decode cX5_take 1 = .ok (.getfield 19, 3) := by decide +kernel
theorem dX5_take_4 : decode cX5_take 4 = .ok (.aload_n 0, 1) := by decide +kernel
theorem dX5_take_5 : decode cX5_take 5 = .ok (.getfield 34, 3) := by decide +kernel
theorem dX5_take_8 : decode cX5_take 8 = .ok (.iaload, 1) := by decide +kernel
theorem dX5_take_9 : decode cX5_take 9 = .ok (.iload_n 1, 1) := by decide +kernel
theorem dX5_take_10 : decode cX5_take 10 = .ok (.if_icmp .eq 9, 3) := by decide +kernel
theorem dX5_take_13 : decode cX5_take 13 = .ok (.aload_n 0, 1) := by decide +kernel
theorem dX5_take_14 : decode cX5_take 14 = .ok (.iconst 1, 1) := by decide +kernel
theorem dX5_take_15 : decode cX5_take 15 = .ok (.invokevirtual 70, 3) := by decide +kernel
theorem dX5_take_18 : decode cX5_take 18 = .ok (.ireturn, 1) := by decide +kernel
theorem dX5_take_19 : decode cX5_take 19 = .ok (.aload_n 0, 1) := by decide +kernel
theorem dX5_take_20 : decode cX5_take 20 = .ok (.invokevirtual 73, 3) := by decide +kernel
theorem dX5_take_23 : decode cX5_take 23 = .ok (.iconst 1, 1) := by decide +kernel
theorem dX5_take_24 : decode cX5_take 24 = .ok (.ireturn, 1) := by decide +kernel
theorem dX5_opens_0 : decode cX5_opens 0 = .ok (.iload_n 1, 1) := by decide +kernel
theorem dX5_opens_1 : decode cX5_opens 1 = .ok (.ifCond .ne 9, 3) := by decide +kernel
theorem dX5_opens_4 : decode cX5_opens 4 = .ok (.aload_n 0, 1) := by decide +kernel
theorem dX5_opens_5 : decode cX5_opens 5 = .ok (.iconst 1, 1) := by decide +kernel
theorem dX5_opens_6 : decode cX5_opens 6 = .ok (.invokevirtual 70, 3) := by decide +kernel
theorem dX5_opens_9 : decode cX5_opens 9 = .ok (.ireturn, 1) := by decide +kernel
theorem dX5_opens_10 : decode cX5_opens 10 = .ok (.iload_n 2, 1) := by decide +kernel
theorem dX5_opens_11 : decode cX5_opens 11 = .ok (.iload_n 3, 1) := by decide +kernel
theorem dX5_opens_12 : decode cX5_opens 12 = .ok (.if_icmp .lt 11, 3) := by decide +kernel
theorem dX5_opens_15 : decode cX5_opens 15 = .ok (.aload_n 0, 1) := by decide +kernel
theorem dX5_opens_16 : decode cX5_opens 16 = .ok (.iconst 3, 1) := by decide +kernel
theorem dX5_opens_17 : decode cX5_opens 17 = .ok (.invokevirtual 70, 3) := by decide +kernel
theorem dX5_opens_20 : decode cX5_opens 20 = .ok (.ifCond .eq 7, 3) := by decide +kernel
theorem dX5_opens_23 : decode cX5_opens 23 = .ok (.iconst 1, 1) := by decide +kernel
theorem dX5_opens_24 : decode cX5_opens 24 = .ok (.goto 4, 3) := by decide +kernel
theorem dX5_opens_27 : decode cX5_opens 27 = .ok (.iconst 0, 1) := by decide +kernel
theorem dX5_opens_28 : decode cX5_opens 28 = .ok (.ireturn, 1) := by decide +kernel
theorem dX5_number_0 : decode cX5_number 0 = .ok (.aload_n 0, 1) := by decide +kernel
theorem dX5_number_1 : decode cX5_number 1 = .ok (.getfield 19, 3) := by decide +kernel
theorem dX5_number_4 : decode cX5_number 4 = .ok (.aload_n 0, 1) := by decide +kernel
theorem dX5_number_5 : decode cX5_number 5 = .ok (.getfield 34, 3) := by decide +kernel
theorem dX5_number_8 : decode cX5_number 8 = .ok (.iaload, 1) := by decide +kernel
theorem dX5_number_9 : decode cX5_number 9 = .ok (.iconst 2, 1) := by decide +kernel
theorem dX5_number_10 : decode cX5_number 10 = .ok (.if_icmp .ne 7, 3) := by decide +kernel
theorem dX5_number_13 : decode cX5_number 13 = .ok (.iconst 1, 1) := by decide +kernel
theorem dX5_number_14 : decode cX5_number 14 = .ok (.goto 4, 3) := by decide +kernel
theorem dX5_number_17 : decode cX5_number 17 = .ok (.iconst 0, 1) := by decide +kernel
theorem dX5_number_18 : decode cX5_number 18 = .ok (.istore_n 3, 1) := by decide +kernel
theorem dX5_number_19 : decode cX5_number 19 = .ok (.iload_n 3, 1) := by decide +kernel
theorem dX5_number_20 : decode cX5_number 20 = .ok (.ifCond .eq 15, 3) := by decide +kernel
theorem dX5_number_23 : decode cX5_number 23 = .ok (.aload_n 0, 1) := by decide +kernel
theorem dX5_number_24 : decode cX5_number 24 = .ok (.getfield 22, 3) := by decide +kernel
theorem dX5_number_27 : decode cX5_number 27 = .ok (.aload_n 0, 1) := by decide +kernel
theorem dX5_number_28 : decode cX5_number 28 = .ok (.getfield 34, 3) := by decide +kernel
theorem dX5_number_31 : decode cX5_number 31 = .ok (.iaload, 1) := by decide +kernel
theorem dX5_number_32 : decode cX5_number 32 = .ok (.goto 4, 3) := by decide +kernel
theorem dX5_number_35 : decode cX5_number 35 = .ok (.iconst (-1), 1) := by decide +kernel
theorem dX5_number_36 : decode cX5_number 36 = .ok (.istore 4, 2) := by decide +kernel
theorem dX5_number_38 : decode cX5_number 38 = .ok (.iload_n 3, 1) := by decide +kernel
theorem dX5_number_39 : decode cX5_number 39 = .ok (.ifCond .eq 15, 3) := by decide +kernel
theorem dX5_number_42 : decode cX5_number 42 = .ok (.iload 4, 2) := by decide +kernel
theorem dX5_number_44 : decode cX5_number 44 = .ok (.iload_n 1, 1) := by decide +kernel
theorem dX5_number_45 : decode cX5_number 45 = .ok (.if_icmp .lt 9, 3) := by decide +kernel
theorem dX5_number_48 : decode cX5_number 48 = .ok (.iload 4, 2) := by decide +kernel
theorem dX5_number_50 : decode cX5_number 50 = .ok (.iload_n 2, 1) := by decide +kernel
theorem dX5_number_51 : decode cX5_number 51 = .ok (.if_icmp .le 19, 3) := by decide +kernel
theorem dX5_number_54 : decode cX5_number 54 = .ok (.aload_n 0, 1) := by decide +kernel
theorem dX5_number_55 : decode cX5_number 55 = .ok (.iload_n 3, 1) := by decide +kernel
theorem dX5_number_56 : decode cX5_number 56 = .ok (.ifCond .eq 7, 3) := by decide +kernel
theorem dX5_number_59 : decode cX5_number 59 = .ok (.iconst 2, 1) := by decide +kernel
theorem dX5_number_60 : decode cX5_number 60 = .ok (.goto 4, 3) := by decide +kernel
theorem dX5_number_63 : decode cX5_number 63 = .ok (.iconst 1, 1) := by decide +kernel
theorem dX5_number_64 : decode cX5_number 64 = .ok (.invokevirtual 70, 3) := by decide +kernel
theorem dX5_number_67 : decode cX5_number 67 = .ok (.pop, 1) := by decide +kernel
theorem dX5_number_68 : decode cX5_number 68 = .ok (.iconst (-1), 1) := by decide +kernel
theorem dX5_number_69 : decode cX5_number 69 = .ok (.ireturn, 1) := by decide +kernel
theorem dX5_number_70 : decode cX5_number 70 = .ok (.aload_n 0, 1) := by decide +kernel
theorem dX5_number_71 : decode cX5_number 71 = .ok (.invokevirtual 73, 3) := by decide +kernel
theorem dX5_number_74 : decode cX5_number 74 = .ok (.iload 4, 2) := by decide +kernel
theorem dX5_number_76 : decode cX5_number 76 = .ok (.ireturn, 1) := by decide +kernel
theorem dX5_isLetter_0 : decode cX5_isLetter 0 = .ok (.iload_n 0, 1) := by decide +kernel
theorem dX5_isLetter_1 : decode cX5_isLetter 1 = .ok (.bipush 97, 2) := by decide +kernel
theorem dX5_isLetter_3 : decode cX5_isLetter 3 = .ok (.if_icmp .lt 9, 3) := by decide +kernel
theorem dX5_isLetter_6 : decode cX5_isLetter 6 = .ok (.iload_n 0, 1) := by decide +kernel
theorem dX5_isLetter_7 : decode cX5_isLetter 7 = .ok (.bipush 122, 2) := by decide +kernel
theorem dX5_isLetter_9 : decode cX5_isLetter 9 = .ok (.if_icmp .le 15, 3) := by decide +kernel
theorem dX5_isLetter_12 : decode cX5_isLetter 12 = .ok (.iload_n 0, 1) := by decide +kernel
theorem dX5_isLetter_13 : decode cX5_isLetter 13 = .ok (.bipush 65, 2) := by decide +kernel
theorem dX5_isLetter_15 : decode cX5_isLetter 15 = .ok (.if_icmp .lt 13, 3) := by decide +kernel
theorem dX5_isLetter_18 : decode cX5_isLetter 18 = .ok (.iload_n 0, 1) := by decide +kernel
theorem dX5_isLetter_19 : decode cX5_isLetter 19 = .ok (.bipush 90, 2) := by decide +kernel
theorem dX5_isLetter_21 : decode cX5_isLetter 21 = .ok (.if_icmp .gt 7, 3) := by decide +kernel
theorem dX5_isLetter_24 : decode cX5_isLetter 24 = .ok (.iconst 1, 1) := by decide +kernel
theorem dX5_isLetter_25 : decode cX5_isLetter 25 = .ok (.goto 4, 3) := by decide +kernel
theorem dX5_isLetter_28 : decode cX5_isLetter 28 = .ok (.iconst 0, 1) := by decide +kernel
theorem dX5_isLetter_29 : decode cX5_isLetter 29 = .ok (.ireturn, 1) := by decide +kernel
theorem dX5_isDigit_0 : decode cX5_isDigit 0 = .ok (.iload_n 0, 1) := by decide +kernel
theorem dX5_isDigit_1 : decode cX5_isDigit 1 = .ok (.bipush 48, 2) := by decide +kernel
theorem dX5_isDigit_3 : decode cX5_isDigit 3 = .ok (.if_icmp .lt 13, 3) := by decide +kernel
theorem dX5_isDigit_6 : decode cX5_isDigit 6 = .ok (.iload_n 0, 1) := by decide +kernel
theorem dX5_isDigit_7 : decode cX5_isDigit 7 = .ok (.bipush 57, 2) := by decide +kernel
theorem dX5_isDigit_9 : decode cX5_isDigit 9 = .ok (.if_icmp .gt 7, 3) := by decide +kernel
theorem dX5_isDigit_12 : decode cX5_isDigit 12 = .ok (.iconst 1, 1) := by decide +kernel
theorem dX5_isDigit_13 : decode cX5_isDigit 13 = .ok (.goto 4, 3) := by decide +kernel
theorem dX5_isDigit_16 : decode cX5_isDigit 16 = .ok (.iconst 0, 1) := by decide +kernel
theorem dX5_isDigit_17 : decode cX5_isDigit 17 = .ok (.ireturn, 1) := by decide +kernel
theorem dX5_behindLetters_0 : decode cX5_behindLetters 0 = .ok (.iload_n 1, 1) := by decide +kernel
theorem dX5_behindLetters_1 : decode cX5_behindLetters 1 = .ok (.istore_n 2, 1) := by decide +kernel
theorem dX5_behindLetters_2 : decode cX5_behindLetters 2 = .ok (.iload_n 2, 1) := by decide +kernel
theorem dX5_behindLetters_3 : decode cX5_behindLetters 3 = .ok (.aload_n 0, 1) := by decide +kernel
theorem dX5_behindLetters_4 : decode cX5_behindLetters 4 = .ok (.getfield 28, 3) := by decide +kernel
theorem dX5_behindLetters_7 : decode cX5_behindLetters 7 = .ok (.if_icmp .ge 21, 3) := by decide +kernel
theorem dX5_behindLetters_10 : decode cX5_behindLetters 10 = .ok (.aload_n 0, 1) := by decide +kernel
theorem dX5_behindLetters_11 : decode cX5_behindLetters 11 = .ok (.getfield 15, 3) := by decide +kernel
theorem dX5_behindLetters_14 : decode cX5_behindLetters 14 = .ok (.iload_n 2, 1) := by decide +kernel
theorem dX5_behindLetters_15 : decode cX5_behindLetters 15 = .ok (.iaload, 1) := by decide +kernel
theorem dX5_behindLetters_16 : decode cX5_behindLetters 16 = .ok (.invokestatic 37, 3) := by decide +kernel
theorem dX5_behindLetters_19 : decode cX5_behindLetters 19 = .ok (.ifCond .eq 9, 3) := by decide +kernel
theorem dX5_behindLetters_22 : decode cX5_behindLetters 22 = .ok (.iinc 2 1, 3) := by decide +kernel
theorem dX5_behindLetters_25 : decode cX5_behindLetters 25 = .ok (.goto (-23), 3) := by decide +kernel
theorem dX5_behindLetters_28 : decode cX5_behindLetters 28 = .ok (.iload_n 2, 1) := by decide +kernel
theorem dX5_behindLetters_29 : decode cX5_behindLetters 29 = .ok (.ireturn, 1) := by decide +kernel
theorem dX5_behindDigits_0 : decode cX5_behindDigits 0 = .ok (.iload_n 1, 1) := by decide +kernel
theorem dX5_behindDigits_1 : decode cX5_behindDigits 1 = .ok (.istore_n 2, 1) := by decide +kernel
theorem dX5_behindDigits_2 : decode cX5_behindDigits 2 = .ok (.iload_n 2, 1) := by decide +kernel
theorem dX5_behindDigits_3 : decode cX5_behindDigits 3 = .ok (.aload_n 0, 1) := by decide +kernel
theorem dX5_behindDigits_4 : decode cX5_behindDigits 4 = .ok (.getfield 28, 3) := by decide +kernel
theorem dX5_behindDigits_7 : decode cX5_behindDigits 7 = .ok (.if_icmp .ge 21, 3) := by decide +kernel
theorem dX5_behindDigits_10 : decode cX5_behindDigits 10 = .ok (.aload_n 0, 1) := by decide +kernel
theorem dX5_behindDigits_11 : decode cX5_behindDigits 11 = .ok (.getfield 15, 3) := by decide +kernel
theorem dX5_behindDigits_14 : decode cX5_behindDigits 14 = .ok (.iload_n 2, 1) := by decide +kernel
theorem dX5_behindDigits_15 : decode cX5_behindDigits 15 = .ok (.iaload, 1) := by decide +kernel
theorem dX5_behindDigits_16 : decode cX5_behindDigits 16 = .ok (.invokestatic 54, 3) := by decide +kernel
theorem dX5_behindDigits_19 : decode cX5_behindDigits 19 = .ok (.ifCond .eq 9, 3) := by decide +kernel
theorem dX5_behindDigits_22 : decode cX5_behindDigits 22 = .ok (.iinc 2 1, 3) := by decide +kernel
theorem dX5_behindDigits_25 : decode cX5_behindDigits 25 = .ok (.goto (-23), 3) := by decide +kernel
theorem dX5_behindDigits_28 : decode cX5_behindDigits 28 = .ok (.iload_n 2, 1) := by decide +kernel
theorem dX5_behindDigits_29 : decode cX5_behindDigits 29 = .ok (.ireturn, 1) := by decide +kernel
theorem dX5_valueOf_0 : decode cX5_valueOf 0 = .ok (.iconst 0, 1) := by decide +kernel
theorem dX5_valueOf_1 : decode cX5_valueOf 1 = .ok (.istore_n 3, 1) := by decide +kernel
theorem dX5_valueOf_2 : decode cX5_valueOf 2 = .ok (.iload_n 1, 1) := by decide +kernel
theorem dX5_valueOf_3 : decode cX5_valueOf 3 = .ok (.istore 4, 2) := by decide +kernel
theorem dX5_valueOf_5 : decode cX5_valueOf 5 = .ok (.iload 4, 2) := by decide +kernel
theorem dX5_valueOf_7 : decode cX5_valueOf 7 = .ok (.iload_n 2, 1) := by decide +kernel
theorem dX5_valueOf_8 : decode cX5_valueOf 8 = .ok (.if_icmp .ge 25, 3) := by decide +kernel
theorem dX5_valueOf_11 : decode cX5_valueOf 11 = .ok (.bipush 10, 2) := by decide +kernel
theorem dX5_valueOf_13 : decode cX5_valueOf 13 = .ok (.iload_n 3, 1) := by decide +kernel
theorem dX5_valueOf_14 : decode cX5_valueOf 14 = .ok (.imul, 1) := by decide +kernel
theorem dX5_valueOf_15 : decode cX5_valueOf 15 = .ok (.aload_n 0, 1) := by decide +kernel
theorem dX5_valueOf_16 : decode cX5_valueOf 16 = .ok (.getfield 15, 3) := by decide +kernel
theorem dX5_valueOf_19 : decode cX5_valueOf 19 = .ok (.iload 4, 2) := by decide +kernel
theorem dX5_valueOf_21 : decode cX5_valueOf 21 = .ok (.iaload, 1) := by decide +kernel
theorem dX5_valueOf_22 : decode cX5_valueOf 22 = .ok (.iadd, 1) := by decide +kernel
theorem dX5_valueOf_23 : decode cX5_valueOf 23 = .ok (.bipush 48, 2) := by decide +kernel
theorem dX5_valueOf_25 : decode cX5_valueOf 25 = .ok (.isub, 1) := by decide +kernel
theorem dX5_valueOf_26 : decode cX5_valueOf 26 = .ok (.istore_n 3, 1) := by decide +kernel
theorem dX5_valueOf_27 : decode cX5_valueOf 27 = .ok (.iinc 4 1, 3) := by decide +kernel
theorem dX5_valueOf_30 : decode cX5_valueOf 30 = .ok (.goto (-25), 3) := by decide +kernel
theorem dX5_valueOf_33 : decode cX5_valueOf 33 = .ok (.iload_n 3, 1) := by decide +kernel
theorem dX5_valueOf_34 : decode cX5_valueOf 34 = .ok (.ireturn, 1) := by decide +kernel
theorem dX5_keyword_0 : decode cX5_keyword 0 = .ok (.sipush 128, 3) := by decide +kernel
theorem dX5_keyword_3 : decode cX5_keyword 3 = .ok (.istore_n 3, 1) := by decide +kernel
theorem dX5_keyword_4 : decode cX5_keyword 4 = .ok (.iload_n 1, 1) := by decide +kernel
theorem dX5_keyword_5 : decode cX5_keyword 5 = .ok (.istore 4, 2) := by decide +kernel
theorem dX5_keyword_7 : decode cX5_keyword 7 = .ok (.iconst 1, 1) := by decide +kernel
theorem dX5_keyword_8 : decode cX5_keyword 8 = .ok (.istore 5, 2) := by decide +kernel
theorem dX5_keyword_10 : decode cX5_keyword 10 = .ok (.iconst 0, 1) := by decide +kernel
theorem dX5_keyword_11 : decode cX5_keyword 11 = .ok (.istore 6, 2) := by decide +kernel
theorem dX5_keyword_13 : decode cX5_keyword 13 = .ok (.iload 6, 2) := by decide +kernel
theorem dX5_keyword_15 : decode cX5_keyword 15 = .ok (.ldc 76, 2) := by decide +kernel
theorem dX5_keyword_17 : decode cX5_keyword 17 = .ok (.invokevirtual 78, 3) := by decide +kernel
theorem dX5_keyword_20 : decode cX5_keyword 20 = .ok (.if_icmp .ge 83, 3) := by decide +kernel
theorem dX5_keyword_23 : decode cX5_keyword 23 = .ok (.ldc 76, 2) := by decide +kernel
theorem dX5_keyword_25 : decode cX5_keyword 25 = .ok (.iload 6, 2) := by decide +kernel
theorem dX5_keyword_27 : decode cX5_keyword 27 = .ok (.invokevirtual 81, 3) := by decide +kernel
theorem dX5_keyword_30 : decode cX5_keyword 30 = .ok (.istore 7, 2) := by decide +kernel
theorem dX5_keyword_32 : decode cX5_keyword 32 = .ok (.iload 7, 2) := by decide +kernel
theorem dX5_keyword_34 : decode cX5_keyword 34 = .ok (.bipush 32, 2) := by decide +kernel
theorem dX5_keyword_36 : decode cX5_keyword 36 = .ok (.if_icmp .eq 39, 3) := by decide +kernel
theorem dX5_keyword_39 : decode cX5_keyword 39 = .ok (.iload 5, 2) := by decide +kernel
theorem dX5_keyword_41 : decode cX5_keyword 41 = .ok (.ifCond .eq 25, 3) := by decide +kernel
theorem dX5_keyword_44 : decode cX5_keyword 44 = .ok (.iload 4, 2) := by decide +kernel
theorem dX5_keyword_46 : decode cX5_keyword 46 = .ok (.iload_n 2, 1) := by decide +kernel
theorem dX5_keyword_47 : decode cX5_keyword 47 = .ok (.if_icmp .ge 19, 3) := by decide +kernel
theorem dX5_keyword_50 : decode cX5_keyword 50 = .ok (.aload_n 0, 1) := by decide +kernel
theorem dX5_keyword_51 : decode cX5_keyword 51 = .ok (.getfield 15, 3) := by decide +kernel
theorem dX5_keyword_54 : decode cX5_keyword 54 = .ok (.iload 4, 2) := by decide +kernel
theorem dX5_keyword_56 : decode cX5_keyword 56 = .ok (.iaload, 1) := by decide +kernel
theorem dX5_keyword_57 : decode cX5_keyword 57 = .ok (.iload 7, 2) := by decide +kernel
theorem dX5_keyword_59 : decode cX5_keyword 59 = .ok (.if_icmp .ne 7, 3) := by decide +kernel
theorem dX5_keyword_62 : decode cX5_keyword 62 = .ok (.iconst 1, 1) := by decide +kernel
theorem dX5_keyword_63 : decode cX5_keyword 63 = .ok (.goto 4, 3) := by decide +kernel
theorem dX5_keyword_66 : decode cX5_keyword 66 = .ok (.iconst 0, 1) := by decide +kernel
theorem dX5_keyword_67 : decode cX5_keyword 67 = .ok (.istore 5, 2) := by decide +kernel
theorem dX5_keyword_69 : decode cX5_keyword 69 = .ok (.iinc 4 1, 3) := by decide +kernel
theorem dX5_keyword_72 : decode cX5_keyword 72 = .ok (.goto 25, 3) := by decide +kernel
theorem dX5_keyword_75 : decode cX5_keyword 75 = .ok (.iload 5, 2) := by decide +kernel
theorem dX5_keyword_77 : decode cX5_keyword 77 = .ok (.ifCond .eq 11, 3) := by decide +kernel
theorem dX5_keyword_80 : decode cX5_keyword 80 = .ok (.iload 4, 2) := by decide +kernel
theorem dX5_keyword_82 : decode cX5_keyword 82 = .ok (.iload_n 2, 1) := by decide +kernel
theorem dX5_keyword_83 : decode cX5_keyword 83 = .ok (.if_icmp .ne 5, 3) := by decide +kernel
theorem dX5_keyword_86 : decode cX5_keyword 86 = .ok (.iload_n 3, 1) := by decide +kernel
theorem dX5_keyword_87 : decode cX5_keyword 87 = .ok (.ireturn, 1) := by decide +kernel
theorem dX5_keyword_88 : decode cX5_keyword 88 = .ok (.iinc 3 1, 3) := by decide +kernel
theorem dX5_keyword_91 : decode cX5_keyword 91 = .ok (.iload_n 1, 1) := by decide +kernel
theorem dX5_keyword_92 : decode cX5_keyword 92 = .ok (.istore 4, 2) := by decide +kernel
theorem dX5_keyword_94 : decode cX5_keyword 94 = .ok (.iconst 1, 1) := by decide +kernel
theorem dX5_keyword_95 : decode cX5_keyword 95 = .ok (.istore 5, 2) := by decide +kernel
theorem dX5_keyword_97 : decode cX5_keyword 97 = .ok (.iinc 6 1, 3) := by decide +kernel
theorem dX5_keyword_100 : decode cX5_keyword 100 = .ok (.goto (-87), 3) := by decide +kernel
theorem dX5_keyword_103 : decode cX5_keyword 103 = .ok (.iconst 1, 1) := by decide +kernel
theorem dX5_keyword_104 : decode cX5_keyword 104 = .ok (.ireturn, 1) := by decide +kernel
theorem dX6_init_0 : decode cX6_init 0 = .ok (.aload_n 0, 1) := by decide +kernel
theorem dX6_init_1 : decode cX6_init 1 = .ok (.invokespecial 5, 3) := by decide +kernel
theorem dX6_init_4 : decode cX6_init 4 = .ok (.aload_n 0, 1) := by decide +kernel
theorem dX6_init_5 : decode cX6_init 5 = .ok (.bipush 24, 2) := by decide +kernel
theorem dX6_init_7 : decode cX6_init 7 = .ok (.newarray .int, 2) := by decide +kernel
theorem dX6_init_9 : decode cX6_init 9 = .ok (.putfield 11, 3) := by decide +kernel
theorem dX6_init_12 : decode cX6_init 12 = .ok (.aload_n 0, 1) := by decide +kernel
theorem dX6_init_13 : decode cX6_init 13 = .ok (.iconst 2, 1) := by decide +kernel
theorem dX6_init_14 : decode cX6_init 14 = .ok (.newarray .int, 2) := by decide +kernel
theorem dX6_init_16 : decode cX6_init 16 = .ok (.putfield 15, 3) := by decide +kernel
theorem dX6_init_19 : decode cX6_init 19 = .ok (.aload_n 0, 1) := by decide +kernel
theorem dX6_init_20 : decode cX6_init 20 = .ok (.bipush 24, 2) := by decide +kernel
theorem dX6_init_22 : decode cX6_init 22 = .ok (.newarray .int, 2) := by decide +kernel
theorem dX6_init_24 : decode cX6_init 24 = .ok (.putfield 18, 3) := by decide +kernel
theorem dX6_init_27 : decode cX6_init 27 = .ok (.aload_n 0, 1) := by decide +kernel
theorem dX6_init_28 : decode cX6_init 28 = .ok (.bipush 8, 2) := by decide +kernel
theorem dX6_init_30 : decode cX6_init 30 = .ok (.newarray .int, 2) := by decide +kernel
theorem dX6_init_32 : decode cX6_init 32 = .ok (.putfield 21, 3) := by decide +kernel
theorem dX6_init_35 : decode cX6_init 35 = .ok (.aload_n 0, 1) := by decide +kernel
theorem dX6_init_36 : decode cX6_init 36 = .ok (.bipush 8, 2) := by decide +kernel
theorem dX6_init_38 : decode cX6_init 38 = .ok (.newarray .int, 2) := by decide +kernel
theorem dX6_init_40 : decode cX6_init 40 = .ok (.putfield 24, 3) := by decide +kernel
theorem dX6_init_43 : decode cX6_init 43 = .ok (.aload_n 0, 1) := by decide +kernel
theorem dX6_init_44 : decode cX6_init 44 = .ok (.bipush 8, 2) := by decide +kernel
theorem dX6_init_46 : decode cX6_init 46 = .ok (.newarray .int, 2) := by decide +kernel
theorem dX6_init_48 : decode cX6_init 48 = .ok (.putfield 27, 3) := by decide +kernel
theorem dX6_init_51 : decode cX6_init 51 = .ok (.aload_n 0, 1) := by decide +kernel
theorem dX6_init_52 : decode cX6_init 52 = .ok (.bipush 25, 2) := by decide +kernel
theorem dX6_init_54 : decode cX6_init 54 = .ok (.newarray .int, 2) := by decide +kernel
theorem dX6_init_56 : decode cX6_init 56 = .ok (.putfield 30, 3) := by decide +kernel
theorem dX6_init_59 : decode cX6_init 59 = .ok (.return_, 1) := by decide +kernel
theorem dX6_tellTurn_0 : decode cX6_tellTurn 0 = .ok (.iload_n 2, 1) := by decide +kernel
theorem dX6_tellTurn_1 : decode cX6_tellTurn 1 = .ok (.iconst (-1), 1) := by decide +kernel
theorem dX6_tellTurn_2 : decode cX6_tellTurn 2 = .ok (.if_icmp .ne 12, 3) := by decide +kernel
theorem dX6_tellTurn_5 : decode cX6_tellTurn 5 = .ok (.aload_n 0, 1) := by decide +kernel
theorem dX6_tellTurn_6 : decode cX6_tellTurn 6 = .ok (.getfield 15, 3) := by decide +kernel
theorem dX6_tellTurn_9 : decode cX6_tellTurn 9 = .ok (.iload_n 1, 1) := by decide +kernel
theorem dX6_tellTurn_10 : decode cX6_tellTurn 10 = .ok (.iconst 0, 1) := by decide +kernel
theorem dX6_tellTurn_11 : decode cX6_tellTurn 11 = .ok (.iastore, 1) := by decide +kernel
theorem dX6_tellTurn_12 : decode cX6_tellTurn 12 = .ok (.iconst 0, 1) := by decide +kernel
theorem dX6_tellTurn_13 : decode cX6_tellTurn 13 = .ok (.ireturn, 1) := by decide +kernel
theorem dX6_tellTurn_14 : decode cX6_tellTurn 14 = .ok (.aload_n 0, 1) := by decide +kernel
theorem dX6_tellTurn_15 : decode cX6_tellTurn 15 = .ok (.getfield 15, 3) := by decide +kernel
theorem dX6_tellTurn_18 : decode cX6_tellTurn 18 = .ok (.iload_n 1, 1) := by decide +kernel
theorem dX6_tellTurn_19 : decode cX6_tellTurn 19 = .ok (.iaload, 1) := by decide +kernel
theorem dX6_tellTurn_20 : decode cX6_tellTurn 20 = .ok (.bipush 12, 2) := by decide +kernel
theorem dX6_tellTurn_22 : decode cX6_tellTurn 22 = .ok (.if_icmp .lt 5, 3) := by decide +kernel
theorem dX6_tellTurn_25 : decode cX6_tellTurn 25 = .ok (.iconst (-1), 1) := by decide +kernel
theorem dX6_tellTurn_26 : decode cX6_tellTurn 26 = .ok (.ireturn, 1) := by decide +kernel
theorem dX6_tellTurn_27 : decode cX6_tellTurn 27 = .ok (.aload_n 0, 1) := by decide +kernel
theorem dX6_tellTurn_28 : decode cX6_tellTurn 28 = .ok (.getfield 11, 3) := by decide +kernel
theorem dX6_tellTurn_31 : decode cX6_tellTurn 31 = .ok (.bipush 12, 2) := by decide +kernel
theorem dX6_tellTurn_33 : decode cX6_tellTurn 33 = .ok (.iload_n 1, 1) := by decide +kernel
theorem dX6_tellTurn_34 : decode cX6_tellTurn 34 = .ok (.imul, 1) := by decide +kernel
theorem dX6_tellTurn_35 : decode cX6_tellTurn 35 = .ok (.aload_n 0, 1) := by decide +kernel
theorem dX6_tellTurn_36 : decode cX6_tellTurn 36 = .ok (.getfield 15, 3) := by decide +kernel
theorem dX6_tellTurn_39 : decode cX6_tellTurn 39 = .ok (.iload_n 1, 1) := by decide +kernel
theorem dX6_tellTurn_40 : decode cX6_tellTurn 40 = .ok (.iaload, 1) := by decide +kernel
theorem dX6_tellTurn_41 : decode cX6_tellTurn 41 = .ok (.iadd, 1) := by decide +kernel
theorem dX6_tellTurn_42 : decode cX6_tellTurn 42 = .ok (.iload_n 2, 1) := by decide +kernel
theorem dX6_tellTurn_43 : decode cX6_tellTurn 43 = .ok (.iastore, 1) := by decide +kernel
theorem dX6_tellTurn_44 : decode cX6_tellTurn 44 = .ok (.aload_n 0, 1) := by decide +kernel
theorem dX6_tellTurn_45 : decode cX6_tellTurn 45 = .ok (.getfield 15, 3) := by decide +kernel
theorem dX6_tellTurn_48 : decode cX6_tellTurn 48 = .ok (.iload_n 1, 1) := by decide +kernel
theorem dX6_tellTurn_49 : decode cX6_tellTurn 49 = .ok (.dup2, 1) := by decide +kernel
theorem dX6_tellTurn_50 : decode cX6_tellTurn 50 = .ok (.iaload, 1) := by decide +kernel
theorem dX6_tellTurn_51 : decode cX6_tellTurn 51 = .ok (.iconst 1, 1) := by decide +kernel
theorem dX6_tellTurn_52 : decode cX6_tellTurn 52 = .ok (.iadd, 1) := by decide +kernel
theorem dX6_tellTurn_53 : decode cX6_tellTurn 53 = .ok (.iastore, 1) := by decide +kernel
theorem dX6_tellTurn_54 : decode cX6_tellTurn 54 = .ok (.aload_n 0, 1) := by decide +kernel
theorem dX6_tellTurn_55 : decode cX6_tellTurn 55 = .ok (.getfield 15, 3) := by decide +kernel
theorem dX6_tellTurn_58 : decode cX6_tellTurn 58 = .ok (.iload_n 1, 1) := by decide +kernel
theorem dX6_tellTurn_59 : decode cX6_tellTurn 59 = .ok (.iaload, 1) := by decide +kernel
theorem dX6_tellTurn_60 : decode cX6_tellTurn 60 = .ok (.ireturn, 1) := by decide +kernel
theorem dX6_tellMove_0 : decode cX6_tellMove 0 = .ok (.iload_n 1, 1) := by decide +kernel
theorem dX6_tellMove_1 : decode cX6_tellMove 1 = .ok (.iconst (-1), 1) := by decide +kernel
theorem dX6_tellMove_2 : decode cX6_tellMove 2 = .ok (.if_icmp .ne 10, 3) := by decide +kernel
theorem dX6_tellMove_5 : decode cX6_tellMove 5 = .ok (.aload_n 0, 1) := by decide +kernel
theorem dX6_tellMove_6 : decode cX6_tellMove 6 = .ok (.iconst 0, 1) := by decide +kernel
theorem dX6_tellMove_7 : decode cX6_tellMove 7 = .ok (.putfield 33, 3) := by decide +kernel
theorem dX6_tellMove_10 : decode cX6_tellMove 10 = .ok (.iconst 0, 1) := by decide +kernel
theorem dX6_tellMove_11 : decode cX6_tellMove 11 = .ok (.ireturn, 1) := by decide +kernel
theorem dX6_tellMove_12 : decode cX6_tellMove 12 = .ok (.aload_n 0, 1) := by decide +kernel
theorem dX6_tellMove_13 : decode cX6_tellMove 13 = .ok (.getfield 33, 3) := by decide +kernel
theorem dX6_tellMove_16 : decode cX6_tellMove 16 = .ok (.bipush 24, 2) := by decide +kernel
theorem dX6_tellMove_18 : decode cX6_tellMove 18 = .ok (.if_icmp .lt 5, 3) := by decide +kernel
theorem dX6_tellMove_21 : decode cX6_tellMove 21 = .ok (.iconst (-1), 1) := by decide +kernel
theorem dX6_tellMove_22 : decode cX6_tellMove 22 = .ok (.ireturn, 1) := by decide +kernel
theorem dX6_tellMove_23 : decode cX6_tellMove 23 = .ok (.aload_n 0, 1) := by decide +kernel
theorem dX6_tellMove_24 : decode cX6_tellMove 24 = .ok (.getfield 18, 3) := by decide +kernel
theorem dX6_tellMove_27 : decode cX6_tellMove 27 = .ok (.aload_n 0, 1) := by decide +kernel
theorem dX6_tellMove_28 : decode cX6_tellMove 28 = .ok (.getfield 33, 3) := by decide +kernel
theorem dX6_tellMove_31 : decode cX6_tellMove 31 = .ok (.iload_n 1, 1) := by decide +kernel
theorem dX6_tellMove_32 : decode cX6_tellMove 32 = .ok (.iastore, 1) := by decide +kernel
theorem dX6_tellMove_33 : decode cX6_tellMove 33 = .ok (.aload_n 0, 1) := by decide +kernel
theorem dX6_tellMove_34 : decode cX6_tellMove 34 = .ok (.dup, 1) := by decide +kernel
theorem dX6_tellMove_35 : decode cX6_tellMove 35 = .ok (.getfield 33, 3) := by decide +kernel
theorem dX6_tellMove_38 : decode cX6_tellMove 38 = .ok (.iconst 1, 1) := by decide +kernel
theorem dX6_tellMove_39 : decode cX6_tellMove 39 = .ok (.iadd, 1) := by decide +kernel
theorem dX6_tellMove_40 : decode cX6_tellMove 40 = .ok (.putfield 33, 3) := by decide +kernel
theorem dX6_tellMove_43 : decode cX6_tellMove 43 = .ok (.aload_n 0, 1) := by decide +kernel
theorem dX6_tellMove_44 : decode cX6_tellMove 44 = .ok (.getfield 33, 3) := by decide +kernel
theorem dX6_tellMove_47 : decode cX6_tellMove 47 = .ok (.ireturn, 1) := by decide +kernel
theorem dX6_tellGap_0 : decode cX6_tellGap 0 = .ok (.iload_n 1, 1) := by decide +kernel
theorem dX6_tellGap_1 : decode cX6_tellGap 1 = .ok (.iconst (-1), 1) := by decide +kernel
theorem dX6_tellGap_2 : decode cX6_tellGap 2 = .ok (.if_icmp .ne 10, 3) := by decide +kernel
theorem dX6_tellGap_5 : decode cX6_tellGap 5 = .ok (.aload_n 0, 1) := by decide +kernel
theorem dX6_tellGap_6 : decode cX6_tellGap 6 = .ok (.iconst 0, 1) := by decide +kernel
theorem dX6_tellGap_7 : decode cX6_tellGap 7 = .ok (.putfield 37, 3) := by decide +kernel
theorem dX6_tellGap_10 : decode cX6_tellGap 10 = .ok (.iconst 0, 1) := by decide +kernel
theorem dX6_tellGap_11 : decode cX6_tellGap 11 = .ok (.ireturn, 1) := by decide +kernel
theorem dX6_tellGap_12 : decode cX6_tellGap 12 = .ok (.aload_n 0, 1) := by decide +kernel
theorem dX6_tellGap_13 : decode cX6_tellGap 13 = .ok (.getfield 37, 3) := by decide +kernel
theorem dX6_tellGap_16 : decode cX6_tellGap 16 = .ok (.bipush 8, 2) := by decide +kernel
theorem dX6_tellGap_18 : decode cX6_tellGap 18 = .ok (.if_icmp .lt 5, 3) := by decide +kernel
theorem dX6_tellGap_21 : decode cX6_tellGap 21 = .ok (.iconst (-1), 1) := by decide +kernel
theorem dX6_tellGap_22 : decode cX6_tellGap 22 = .ok (.ireturn, 1) := by decide +kernel
theorem dX6_tellGap_23 : decode cX6_tellGap 23 = .ok (.aload_n 0, 1) := by decide +kernel
theorem dX6_tellGap_24 : decode cX6_tellGap 24 = .ok (.getfield 21, 3) := by decide +kernel
theorem dX6_tellGap_27 : decode cX6_tellGap 27 = .ok (.aload_n 0, 1) := by decide +kernel
theorem dX6_tellGap_28 : decode cX6_tellGap 28 = .ok (.getfield 37, 3) := by decide +kernel
theorem dX6_tellGap_31 : decode cX6_tellGap 31 = .ok (.iload_n 1, 1) := by decide +kernel
theorem dX6_tellGap_32 : decode cX6_tellGap 32 = .ok (.iastore, 1) := by decide +kernel
theorem dX6_tellGap_33 : decode cX6_tellGap 33 = .ok (.aload_n 0, 1) := by decide +kernel
theorem dX6_tellGap_34 : decode cX6_tellGap 34 = .ok (.getfield 24, 3) := by decide +kernel
theorem dX6_tellGap_37 : decode cX6_tellGap 37 = .ok (.aload_n 0, 1) := by decide +kernel
theorem dX6_tellGap_38 : decode cX6_tellGap 38 = .ok (.getfield 37, 3) := by decide +kernel
theorem dX6_tellGap_41 : decode cX6_tellGap 41 = .ok (.iload_n 2, 1) := by decide +kernel
theorem dX6_tellGap_42 : decode cX6_tellGap 42 = .ok (.iastore, 1) := by decide +kernel
theorem dX6_tellGap_43 : decode cX6_tellGap 43 = .ok (.aload_n 0, 1) := by decide +kernel
theorem dX6_tellGap_44 : decode cX6_tellGap 44 = .ok (.dup, 1) := by decide +kernel
theorem dX6_tellGap_45 : decode cX6_tellGap 45 = .ok (.getfield 37, 3) := by decide +kernel
theorem dX6_tellGap_48 : decode cX6_tellGap 48 = .ok (.iconst 1, 1) := by decide +kernel
theorem dX6_tellGap_49 : decode cX6_tellGap 49 = .ok (.iadd, 1) := by decide +kernel
theorem dX6_tellGap_50 : decode cX6_tellGap 50 = .ok (.putfield 37, 3) := by decide +kernel
theorem dX6_tellGap_53 : decode cX6_tellGap 53 = .ok (.aload_n 0, 1) := by decide +kernel
theorem dX6_tellGap_54 : decode cX6_tellGap 54 = .ok (.getfield 37, 3) := by decide +kernel
theorem dX6_tellGap_57 : decode cX6_tellGap 57 = .ok (.ireturn, 1) := by decide +kernel
theorem dX6_alike_0 : decode cX6_alike 0 = .ok (.aload_n 0, 1) := by decide +kernel
theorem dX6_alike_1 : decode cX6_alike 1 = .ok (.getfield 15, 3) := by decide +kernel
theorem dX6_alike_4 : decode cX6_alike 4 = .ok (.iconst 0, 1) := by decide +kernel
theorem dX6_alike_5 : decode cX6_alike 5 = .ok (.iaload, 1) := by decide +kernel
theorem dX6_alike_6 : decode cX6_alike 6 = .ok (.aload_n 0, 1) := by decide +kernel
theorem dX6_alike_7 : decode cX6_alike 7 = .ok (.getfield 15, 3) := by decide +kernel
theorem dX6_alike_10 : decode cX6_alike 10 = .ok (.iconst 1, 1) := by decide +kernel
theorem dX6_alike_11 : decode cX6_alike 11 = .ok (.iaload, 1) := by decide +kernel
theorem dX6_alike_12 : decode cX6_alike 12 = .ok (.if_icmp .ne 27, 3) := by decide +kernel
theorem dX6_alike_15 : decode cX6_alike 15 = .ok (.aload_n 0, 1) := by decide +kernel
theorem dX6_alike_16 : decode cX6_alike 16 = .ok (.bipush 12, 2) := by decide +kernel
theorem dX6_alike_18 : decode cX6_alike 18 = .ok (.iconst 0, 1) := by decide +kernel
theorem dX6_alike_19 : decode cX6_alike 19 = .ok (.invokevirtual 40, 3) := by decide +kernel
theorem dX6_alike_22 : decode cX6_alike 22 = .ok (.ifCond .ne 13, 3) := by decide +kernel
theorem dX6_alike_25 : decode cX6_alike 25 = .ok (.aload_n 0, 1) := by decide +kernel
theorem dX6_alike_26 : decode cX6_alike 26 = .ok (.bipush 12, 2) := by decide +kernel
theorem dX6_alike_28 : decode cX6_alike 28 = .ok (.iconst 1, 1) := by decide +kernel
theorem dX6_alike_29 : decode cX6_alike 29 = .ok (.invokevirtual 40, 3) := by decide +kernel
theorem dX6_alike_32 : decode cX6_alike 32 = .ok (.ifCond .eq 7, 3) := by decide +kernel
theorem dX6_alike_35 : decode cX6_alike 35 = .ok (.iconst 1, 1) := by decide +kernel
theorem dX6_alike_36 : decode cX6_alike 36 = .ok (.goto 4, 3) := by decide +kernel
theorem dX6_alike_39 : decode cX6_alike 39 = .ok (.iconst 0, 1) := by decide +kernel
theorem dX6_alike_40 : decode cX6_alike 40 = .ok (.ireturn, 1) := by decide +kernel
theorem dX6_unlikeRows_0 : decode cX6_unlikeRows 0 = .ok (.iconst 1, 1) := by decide +kernel
theorem dX6_unlikeRows_1 : decode cX6_unlikeRows 1 = .ok (.istore_n 1, 1) := by decide +kernel
theorem dX6_unlikeRows_2 : decode cX6_unlikeRows 2 = .ok (.iload_n 1, 1) := by decide +kernel
theorem dX6_unlikeRows_3 : decode cX6_unlikeRows 3 = .ok (.aload_n 0, 1) := by decide +kernel
theorem dX6_unlikeRows_4 : decode cX6_unlikeRows 4 = .ok (.getfield 15, 3) := by decide +kernel
theorem dX6_unlikeRows_7 : decode cX6_unlikeRows 7 = .ok (.iconst 0, 1) := by decide +kernel
theorem dX6_unlikeRows_8 : decode cX6_unlikeRows 8 = .ok (.iaload, 1) := by decide +kernel
theorem dX6_unlikeRows_9 : decode cX6_unlikeRows 9 = .ok (.if_icmp .ge 19, 3) := by decide +kernel
theorem dX6_unlikeRows_12 : decode cX6_unlikeRows 12 = .ok (.aload_n 0, 1) := by decide +kernel
theorem dX6_unlikeRows_13 : decode cX6_unlikeRows 13 = .ok (.iload_n 1, 1) := by decide +kernel
theorem dX6_unlikeRows_14 : decode cX6_unlikeRows 14 = .ok (.iconst 0, 1) := by decide +kernel
theorem dX6_unlikeRows_15 : decode cX6_unlikeRows 15 = .ok (.iconst 0, 1) := by decide +kernel
theorem dX6_unlikeRows_16 : decode cX6_unlikeRows 16 = .ok (.invokevirtual 44, 3) := by decide +kernel
theorem dX6_unlikeRows_19 : decode cX6_unlikeRows 19 = .ok (.ifCond .ne 9, 3) := by decide +kernel
theorem dX6_unlikeRows_22 : decode cX6_unlikeRows 22 = .ok (.iinc 1 1, 3) := by decide +kernel
theorem dX6_unlikeRows_25 : decode cX6_unlikeRows 25 = .ok (.goto (-23), 3) := by decide +kernel
theorem dX6_unlikeRows_28 : decode cX6_unlikeRows 28 = .ok (.aload_n 0, 1) := by decide +kernel
theorem dX6_unlikeRows_29 : decode cX6_unlikeRows 29 = .ok (.getfield 15, 3) := by decide +kernel
theorem dX6_unlikeRows_32 : decode cX6_unlikeRows 32 = .ok (.iconst 0, 1) := by decide +kernel
theorem dX6_unlikeRows_33 : decode cX6_unlikeRows 33 = .ok (.iaload, 1) := by decide +kernel
theorem dX6_unlikeRows_34 : decode cX6_unlikeRows 34 = .ok (.ifCond .eq 12, 3) := by decide +kernel
theorem dX6_unlikeRows_37 : decode cX6_unlikeRows 37 = .ok (.aload_n 0, 1) := by decide +kernel
theorem dX6_unlikeRows_38 : decode cX6_unlikeRows 38 = .ok (.iconst 0, 1) := by decide +kernel
theorem dX6_unlikeRows_39 : decode cX6_unlikeRows 39 = .ok (.iconst 1, 1) := by decide +kernel
theorem dX6_unlikeRows_40 : decode cX6_unlikeRows 40 = .ok (.invokevirtual 40, 3) := by decide +kernel
theorem dX6_unlikeRows_43 : decode cX6_unlikeRows 43 = .ok (.ifCond .eq 7, 3) := by decide +kernel
theorem dX6_unlikeRows_46 : decode cX6_unlikeRows 46 = .ok (.iload_n 1, 1) := by decide +kernel
theorem dX6_unlikeRows_47 : decode cX6_unlikeRows 47 = .ok (.goto 6, 3) := by decide +kernel
theorem dX6_unlikeRows_50 : decode cX6_unlikeRows 50 = .ok (.iconst 2, 1) := by decide +kernel
theorem dX6_unlikeRows_51 : decode cX6_unlikeRows 51 = .ok (.iload_n 1, 1) := by decide +kernel
theorem dX6_unlikeRows_52 : decode cX6_unlikeRows 52 = .ok (.imul, 1) := by decide +kernel
theorem dX6_unlikeRows_53 : decode cX6_unlikeRows 53 = .ok (.ireturn, 1) := by decide +kernel
theorem dX6_wound_0 : decode cX6_wound 0 = .ok (.iconst 0, 1) := by decide +kernel
theorem dX6_wound_1 : decode cX6_wound 1 = .ok (.istore_n 1, 1) := by decide +kernel
theorem dX6_wound_2 : decode cX6_wound 2 = .ok (.iconst 0, 1) := by decide +kernel
theorem dX6_wound_3 : decode cX6_wound 3 = .ok (.istore_n 2, 1) := by decide +kernel
theorem dX6_wound_4 : decode cX6_wound 4 = .ok (.iload_n 2, 1) := by decide +kernel
theorem dX6_wound_5 : decode cX6_wound 5 = .ok (.aload_n 0, 1) := by decide +kernel
theorem dX6_wound_6 : decode cX6_wound 6 = .ok (.getfield 33, 3) := by decide +kernel
theorem dX6_wound_9 : decode cX6_wound 9 = .ok (.if_icmp .ge 33, 3) := by decide +kernel
theorem dX6_wound_12 : decode cX6_wound 12 = .ok (.iload_n 1, 1) := by decide +kernel
theorem dX6_wound_13 : decode cX6_wound 13 = .ok (.aload_n 0, 1) := by decide +kernel
theorem dX6_wound_14 : decode cX6_wound 14 = .ok (.getfield 18, 3) := by decide +kernel
theorem dX6_wound_17 : decode cX6_wound 17 = .ok (.iload_n 2, 1) := by decide +kernel
theorem dX6_wound_18 : decode cX6_wound 18 = .ok (.iaload, 1) := by decide +kernel
theorem dX6_wound_19 : decode cX6_wound 19 = .ok (.iconst 2, 1) := by decide +kernel
theorem dX6_wound_20 : decode cX6_wound 20 = .ok (.if_icmp .ne 7, 3) := by decide +kernel
theorem dX6_wound_23 : decode cX6_wound 23 = .ok (.iconst 1, 1) := by decide +kernel
theorem dX6_wound_24 : decode cX6_wound 24 = .ok (.goto 10, 3) := by decide +kernel
theorem dX6_wound_27 : decode cX6_wound 27 = .ok (.aload_n 0, 1) := by decide +kernel
theorem dX6_wound_28 : decode cX6_wound 28 = .ok (.getfield 18, 3) := by decide +kernel
theorem dX6_wound_31 : decode cX6_wound 31 = .ok (.iload_n 2, 1) := by decide +kernel
theorem dX6_wound_32 : decode cX6_wound 32 = .ok (.iaload, 1) := by decide +kernel
theorem dX6_wound_33 : decode cX6_wound 33 = .ok (.ineg, 1) := by decide +kernel
theorem dX6_wound_34 : decode cX6_wound 34 = .ok (.iadd, 1) := by decide +kernel
theorem dX6_wound_35 : decode cX6_wound 35 = .ok (.istore_n 1, 1) := by decide +kernel
theorem dX6_wound_36 : decode cX6_wound 36 = .ok (.iinc 2 1, 3) := by decide +kernel
theorem dX6_wound_39 : decode cX6_wound 39 = .ok (.goto (-35), 3) := by decide +kernel
theorem dX6_wound_42 : decode cX6_wound 42 = .ok (.iload_n 1, 1) := by decide +kernel
theorem dX6_wound_43 : decode cX6_wound 43 = .ok (.ireturn, 1) := by decide +kernel
theorem dX6_home_0 : decode cX6_home 0 = .ok (.aload_n 0, 1) := by decide +kernel
theorem dX6_home_1 : decode cX6_home 1 = .ok (.invokevirtual 48, 3) := by decide +kernel
theorem dX6_home_4 : decode cX6_home 4 = .ok (.pop, 1) := by decide +kernel
theorem dX6_home_5 : decode cX6_home 5 = .ok (.aload_n 0, 1) := by decide +kernel
theorem dX6_home_6 : decode cX6_home 6 = .ok (.getfield 52, 3) := by decide +kernel
theorem dX6_home_9 : decode cX6_home 9 = .ok (.invokestatic 55, 3) := by decide +kernel
theorem dX6_home_12 : decode cX6_home 12 = .ok (.aload_n 0, 1) := by decide +kernel
theorem dX6_home_13 : decode cX6_home 13 = .ok (.getfield 61, 3) := by decide +kernel
theorem dX6_home_16 : decode cX6_home 16 = .ok (.invokestatic 55, 3) := by decide +kernel
theorem dX6_home_19 : decode cX6_home 19 = .ok (.iadd, 1) := by decide +kernel
theorem dX6_home_20 : decode cX6_home 20 = .ok (.ireturn, 1) := by decide +kernel
theorem dX6_again_0 : decode cX6_again 0 = .ok (.aload_n 0, 1) := by decide +kernel
theorem dX6_again_1 : decode cX6_again 1 = .ok (.invokevirtual 48, 3) := by decide +kernel
theorem dX6_again_4 : decode cX6_again 4 = .ok (.istore_n 1, 1) := by decide +kernel
theorem dX6_again_5 : decode cX6_again 5 = .ok (.iconst 0, 1) := by decide +kernel
theorem dX6_again_6 : decode cX6_again 6 = .ok (.istore_n 2, 1) := by decide +kernel
theorem dX6_again_7 : decode cX6_again 7 = .ok (.iconst 0, 1) := by decide +kernel
theorem dX6_again_8 : decode cX6_again 8 = .ok (.istore_n 3, 1) := by decide +kernel
theorem dX6_again_9 : decode cX6_again 9 = .ok (.iload_n 3, 1) := by decide +kernel
theorem dX6_again_10 : decode cX6_again 10 = .ok (.iload_n 1, 1) := by decide +kernel
theorem dX6_again_11 : decode cX6_again 11 = .ok (.if_icmp .gt 29, 3) := by decide +kernel
theorem dX6_again_14 : decode cX6_again 14 = .ok (.aload_n 0, 1) := by decide +kernel
theorem dX6_again_15 : decode cX6_again 15 = .ok (.iload_n 3, 1) := by decide +kernel
theorem dX6_again_16 : decode cX6_again 16 = .ok (.invokevirtual 64, 3) := by decide +kernel
theorem dX6_again_19 : decode cX6_again 19 = .ok (.ifCond .eq 15, 3) := by decide +kernel
theorem dX6_again_22 : decode cX6_again 22 = .ok (.aload_n 0, 1) := by decide +kernel
theorem dX6_again_23 : decode cX6_again 23 = .ok (.iload_n 3, 1) := by decide +kernel
theorem dX6_again_24 : decode cX6_again 24 = .ok (.iload_n 1, 1) := by decide +kernel
theorem dX6_again_25 : decode cX6_again 25 = .ok (.invokevirtual 68, 3) := by decide +kernel
theorem dX6_again_28 : decode cX6_again 28 = .ok (.ifCond .eq 6, 3) := by decide +kernel
theorem dX6_again_31 : decode cX6_again 31 = .ok (.iinc 2 1, 3) := by decide +kernel
theorem dX6_again_34 : decode cX6_again 34 = .ok (.iinc 3 1, 3) := by decide +kernel
theorem dX6_again_37 : decode cX6_again 37 = .ok (.goto (-28), 3) := by decide +kernel
theorem dX6_again_40 : decode cX6_again 40 = .ok (.iload_n 2, 1) := by decide +kernel
theorem dX6_again_41 : decode cX6_again 41 = .ok (.ireturn, 1) := by decide +kernel
theorem dX6_about_0 : decode cX6_about 0 = .ok (.aload_n 0, 1) := by decide +kernel
theorem dX6_about_1 : decode cX6_about 1 = .ok (.invokevirtual 48, 3) := by decide +kernel
theorem dX6_about_4 : decode cX6_about 4 = .ok (.pop, 1) := by decide +kernel
theorem dX6_about_5 : decode cX6_about 5 = .ok (.aload_n 0, 1) := by decide +kernel
theorem dX6_about_6 : decode cX6_about 6 = .ok (.getfield 52, 3) := by decide +kernel
theorem dX6_about_9 : decode cX6_about 9 = .ok (.ifCond .ne 20, 3) := by decide +kernel
theorem dX6_about_12 : decode cX6_about 12 = .ok (.aload_n 0, 1) := by decide +kernel
theorem dX6_about_13 : decode cX6_about 13 = .ok (.getfield 61, 3) := by decide +kernel
theorem dX6_about_16 : decode cX6_about 16 = .ok (.ifCond .ne 13, 3) := by decide +kernel
theorem dX6_about_19 : decode cX6_about 19 = .ok (.aload_n 0, 1) := by decide +kernel
theorem dX6_about_20 : decode cX6_about 20 = .ok (.getfield 72, 3) := by decide +kernel
theorem dX6_about_23 : decode cX6_about 23 = .ok (.invokestatic 55, 3) := by decide +kernel
theorem dX6_about_26 : decode cX6_about 26 = .ok (.goto 4, 3) := by decide +kernel
theorem dX6_about_29 : decode cX6_about 29 = .ok (.iconst (-1), 1) := by decide +kernel
theorem dX6_about_30 : decode cX6_about 30 = .ok (.ireturn, 1) := by decide +kernel
theorem dX6_sideways_0 : decode cX6_sideways 0 = .ok (.iconst (-1), 1) := by decide +kernel
theorem dX6_sideways_1 : decode cX6_sideways 1 = .ok (.istore_n 1, 1) := by decide +kernel
theorem dX6_sideways_2 : decode cX6_sideways 2 = .ok (.iconst 0, 1) := by decide +kernel
theorem dX6_sideways_3 : decode cX6_sideways 3 = .ok (.istore_n 2, 1) := by decide +kernel
theorem dX6_sideways_4 : decode cX6_sideways 4 = .ok (.iload_n 2, 1) := by decide +kernel
theorem dX6_sideways_5 : decode cX6_sideways 5 = .ok (.bipush 8, 2) := by decide +kernel
theorem dX6_sideways_7 : decode cX6_sideways 7 = .ok (.if_icmp .ge 67, 3) := by decide +kernel
theorem dX6_sideways_10 : decode cX6_sideways 10 = .ok (.iconst 0, 1) := by decide +kernel
theorem dX6_sideways_11 : decode cX6_sideways 11 = .ok (.istore_n 3, 1) := by decide +kernel
theorem dX6_sideways_12 : decode cX6_sideways 12 = .ok (.iconst 0, 1) := by decide +kernel
theorem dX6_sideways_13 : decode cX6_sideways 13 = .ok (.istore 4, 2) := by decide +kernel
theorem dX6_sideways_15 : decode cX6_sideways 15 = .ok (.iload 4, 2) := by decide +kernel
theorem dX6_sideways_17 : decode cX6_sideways 17 = .ok (.aload_n 0, 1) := by decide +kernel
theorem dX6_sideways_18 : decode cX6_sideways 18 = .ok (.getfield 37, 3) := by decide +kernel
theorem dX6_sideways_21 : decode cX6_sideways 21 = .ok (.if_icmp .ge 41, 3) := by decide +kernel
theorem dX6_sideways_24 : decode cX6_sideways 24 = .ok (.aload_n 0, 1) := by decide +kernel
theorem dX6_sideways_25 : decode cX6_sideways 25 = .ok (.getfield 21, 3) := by decide +kernel
theorem dX6_sideways_28 : decode cX6_sideways 28 = .ok (.iload 4, 2) := by decide +kernel
theorem dX6_sideways_30 : decode cX6_sideways 30 = .ok (.iaload, 1) := by decide +kernel
theorem dX6_sideways_31 : decode cX6_sideways 31 = .ok (.iload_n 2, 1) := by decide +kernel
theorem dX6_sideways_32 : decode cX6_sideways 32 = .ok (.if_icmp .ne 24, 3) := by decide +kernel
theorem dX6_sideways_35 : decode cX6_sideways 35 = .ok (.aload_n 0, 1) := by decide +kernel
theorem dX6_sideways_36 : decode cX6_sideways 36 = .ok (.getfield 27, 3) := by decide +kernel
theorem dX6_sideways_39 : decode cX6_sideways 39 = .ok (.iload 4, 2) := by decide +kernel
theorem dX6_sideways_41 : decode cX6_sideways 41 = .ok (.aload_n 0, 1) := by decide +kernel
theorem dX6_sideways_42 : decode cX6_sideways 42 = .ok (.aload_n 0, 1) := by decide +kernel
theorem dX6_sideways_43 : decode cX6_sideways 43 = .ok (.getfield 24, 3) := by decide +kernel
theorem dX6_sideways_46 : decode cX6_sideways 46 = .ok (.iload 4, 2) := by decide +kernel
theorem dX6_sideways_48 : decode cX6_sideways 48 = .ok (.iaload, 1) := by decide +kernel
theorem dX6_sideways_49 : decode cX6_sideways 49 = .ok (.iload_n 1, 1) := by decide +kernel
theorem dX6_sideways_50 : decode cX6_sideways 50 = .ok (.invokevirtual 75, 3) := by decide +kernel
theorem dX6_sideways_53 : decode cX6_sideways 53 = .ok (.iastore, 1) := by decide +kernel
theorem dX6_sideways_54 : decode cX6_sideways 54 = .ok (.iconst 1, 1) := by decide +kernel
theorem dX6_sideways_55 : decode cX6_sideways 55 = .ok (.istore_n 3, 1) := by decide +kernel
theorem dX6_sideways_56 : decode cX6_sideways 56 = .ok (.iinc 4 1, 3) := by decide +kernel
theorem dX6_sideways_59 : decode cX6_sideways 59 = .ok (.goto (-44), 3) := by decide +kernel
theorem dX6_sideways_62 : decode cX6_sideways 62 = .ok (.iload_n 3, 1) := by decide +kernel
theorem dX6_sideways_63 : decode cX6_sideways 63 = .ok (.ifCond .eq 5, 3) := by decide +kernel
theorem dX6_sideways_66 : decode cX6_sideways 66 = .ok (.iload_n 2, 1) := by decide +kernel
theorem dX6_sideways_67 : decode cX6_sideways 67 = .ok (.istore_n 1, 1) := by decide +kernel
theorem dX6_sideways_68 : decode cX6_sideways 68 = .ok (.iinc 2 1, 3) := by decide +kernel
theorem dX6_sideways_71 : decode cX6_sideways 71 = .ok (.goto (-67), 3) := by decide +kernel
theorem dX6_sideways_74 : decode cX6_sideways 74 = .ok (.aload_n 0, 1) := by decide +kernel
theorem dX6_sideways_75 : decode cX6_sideways 75 = .ok (.iconst 0, 1) := by decide +kernel
theorem dX6_sideways_76 : decode cX6_sideways 76 = .ok (.iload_n 1, 1) := by decide +kernel
theorem dX6_sideways_77 : decode cX6_sideways 77 = .ok (.invokevirtual 75, 3) := by decide +kernel
theorem dX6_sideways_80 : decode cX6_sideways 80 = .ok (.ireturn, 1) := by decide +kernel
theorem dX6_copyFrom_0 : decode cX6_copyFrom 0 = .ok (.aload_n 1, 1) := by decide +kernel
theorem dX6_copyFrom_1 : decode cX6_copyFrom 1 = .ok (.getfield 11, 3) := by decide +kernel
theorem dX6_copyFrom_4 : decode cX6_copyFrom 4 = .ok (.iconst 0, 1) := by decide +kernel
theorem dX6_copyFrom_5 : decode cX6_copyFrom 5 = .ok (.aload_n 0, 1) := by decide +kernel
theorem dX6_copyFrom_6 : decode cX6_copyFrom 6 = .ok (.getfield 11, 3) := by decide +kernel
theorem dX6_copyFrom_9 : decode cX6_copyFrom 9 = .ok (.iconst 0, 1) := by decide +kernel
theorem dX6_copyFrom_10 : decode cX6_copyFrom 10 = .ok (.bipush 24, 2) := by decide +kernel
theorem dX6_copyFrom_12 : decode cX6_copyFrom 12 = .ok (.invokestatic 79, 3) := by decide +kernel
theorem dX6_copyFrom_15 : decode cX6_copyFrom 15 = .ok (.aload_n 1, 1) := by decide +kernel
theorem dX6_copyFrom_16 : decode cX6_copyFrom 16 = .ok (.getfield 15, 3) := by decide +kernel
theorem dX6_copyFrom_19 : decode cX6_copyFrom 19 = .ok (.iconst 0, 1) := by decide +kernel
theorem dX6_copyFrom_20 : decode cX6_copyFrom 20 = .ok (.aload_n 0, 1) := by decide +kernel
theorem dX6_copyFrom_21 : decode cX6_copyFrom 21 = .ok (.getfield 15, 3) := by decide +kernel
theorem dX6_copyFrom_24 : decode cX6_copyFrom 24 = .ok (.iconst 0, 1) := by decide +kernel
theorem dX6_copyFrom_25 : decode cX6_copyFrom 25 = .ok (.iconst 2, 1) := by decide +kernel
theorem dX6_copyFrom_26 : decode cX6_copyFrom 26 = .ok (.invokestatic 79, 3) := by decide +kernel
theorem dX6_copyFrom_29 : decode cX6_copyFrom 29 = .ok (.aload_n 1, 1) := by decide +kernel
theorem dX6_copyFrom_30 : decode cX6_copyFrom 30 = .ok (.getfield 18, 3) := by decide +kernel
theorem dX6_copyFrom_33 : decode cX6_copyFrom 33 = .ok (.iconst 0, 1) := by decide +kernel
theorem dX6_copyFrom_34 : decode cX6_copyFrom 34 = .ok (.aload_n 0, 1) := by decide +kernel
theorem dX6_copyFrom_35 : decode cX6_copyFrom 35 = .ok (.getfield 18, 3) := by decide +kernel
theorem dX6_copyFrom_38 : decode cX6_copyFrom 38 = .ok (.iconst 0, 1) := by decide +kernel
theorem dX6_copyFrom_39 : decode cX6_copyFrom 39 = .ok (.bipush 24, 2) := by decide +kernel
theorem dX6_copyFrom_41 : decode cX6_copyFrom 41 = .ok (.invokestatic 79, 3) := by decide +kernel
theorem dX6_copyFrom_44 : decode cX6_copyFrom 44 = .ok (.aload_n 1, 1) := by decide +kernel
theorem dX6_copyFrom_45 : decode cX6_copyFrom 45 = .ok (.getfield 21, 3) := by decide +kernel
theorem dX6_copyFrom_48 : decode cX6_copyFrom 48 = .ok (.iconst 0, 1) := by decide +kernel
theorem dX6_copyFrom_49 : decode cX6_copyFrom 49 = .ok (.aload_n 0, 1) := by decide +kernel
theorem dX6_copyFrom_50 : decode cX6_copyFrom 50 = .ok (.getfield 21, 3) := by decide +kernel
theorem dX6_copyFrom_53 : decode cX6_copyFrom 53 = .ok (.iconst 0, 1) := by decide +kernel
theorem dX6_copyFrom_54 : decode cX6_copyFrom 54 = .ok (.bipush 8, 2) := by decide +kernel
theorem dX6_copyFrom_56 : decode cX6_copyFrom 56 = .ok (.invokestatic 79, 3) := by decide +kernel
theorem dX6_copyFrom_59 : decode cX6_copyFrom 59 = .ok (.aload_n 1, 1) := by decide +kernel
theorem dX6_copyFrom_60 : decode cX6_copyFrom 60 = .ok (.getfield 24, 3) := by decide +kernel
theorem dX6_copyFrom_63 : decode cX6_copyFrom 63 = .ok (.iconst 0, 1) := by decide +kernel
theorem dX6_copyFrom_64 : decode cX6_copyFrom 64 = .ok (.aload_n 0, 1) := by decide +kernel
theorem dX6_copyFrom_65 : decode cX6_copyFrom 65 = .ok (.getfield 24, 3) := by decide +kernel
theorem dX6_copyFrom_68 : decode cX6_copyFrom 68 = .ok (.iconst 0, 1) := by decide +kernel
theorem dX6_copyFrom_69 : decode cX6_copyFrom 69 = .ok (.bipush 8, 2) := by decide +kernel
theorem dX6_copyFrom_71 : decode cX6_copyFrom 71 = .ok (.invokestatic 79, 3) := by decide +kernel
theorem dX6_copyFrom_74 : decode cX6_copyFrom 74 = .ok (.aload_n 0, 1) := by decide +kernel
theorem dX6_copyFrom_75 : decode cX6_copyFrom 75 = .ok (.aload_n 1, 1) := by decide +kernel
theorem dX6_copyFrom_76 : decode cX6_copyFrom 76 = .ok (.getfield 33, 3) := by decide +kernel
theorem dX6_copyFrom_79 : decode cX6_copyFrom 79 = .ok (.putfield 33, 3) := by decide +kernel
theorem dX6_copyFrom_82 : decode cX6_copyFrom 82 = .ok (.aload_n 0, 1) := by decide +kernel
theorem dX6_copyFrom_83 : decode cX6_copyFrom 83 = .ok (.aload_n 1, 1) := by decide +kernel
theorem dX6_copyFrom_84 : decode cX6_copyFrom 84 = .ok (.getfield 37, 3) := by decide +kernel
theorem dX6_copyFrom_87 : decode cX6_copyFrom 87 = .ok (.putfield 37, 3) := by decide +kernel
theorem dX6_copyFrom_90 : decode cX6_copyFrom 90 = .ok (.return_, 1) := by decide +kernel
theorem dX6_goesRoundTo_0 : decode cX6_goesRoundTo 0 = .ok (.aload_n 0, 1) := by decide +kernel
theorem dX6_goesRoundTo_1 : decode cX6_goesRoundTo 1 = .ok (.getfield 15, 3) := by decide +kernel
theorem dX6_goesRoundTo_4 : decode cX6_goesRoundTo 4 = .ok (.iconst 0, 1) := by decide +kernel
theorem dX6_goesRoundTo_5 : decode cX6_goesRoundTo 5 = .ok (.iaload, 1) := by decide +kernel
theorem dX6_goesRoundTo_6 : decode cX6_goesRoundTo 6 = .ok (.istore_n 3, 1) := by decide +kernel
theorem dX6_goesRoundTo_7 : decode cX6_goesRoundTo 7 = .ok (.iload_n 3, 1) := by decide +kernel
theorem dX6_goesRoundTo_8 : decode cX6_goesRoundTo 8 = .ok (.ifCond .ne 7, 3) := by decide +kernel
theorem dX6_goesRoundTo_11 : decode cX6_goesRoundTo 11 = .ok (.iconst 1, 1) := by decide +kernel
theorem dX6_goesRoundTo_12 : decode cX6_goesRoundTo 12 = .ok (.goto 4, 3) := by decide +kernel
theorem dX6_goesRoundTo_15 : decode cX6_goesRoundTo 15 = .ok (.iconst 0, 1) := by decide +kernel
theorem dX6_goesRoundTo_16 : decode cX6_goesRoundTo 16 = .ok (.istore 4, 2) := by decide +kernel
theorem dX6_goesRoundTo_18 : decode cX6_goesRoundTo 18 = .ok (.iconst 0, 1) := by decide +kernel
theorem dX6_goesRoundTo_19 : decode cX6_goesRoundTo 19 = .ok (.istore 5, 2) := by decide +kernel
theorem dX6_goesRoundTo_21 : decode cX6_goesRoundTo 21 = .ok (.iload 5, 2) := by decide +kernel
theorem dX6_goesRoundTo_23 : decode cX6_goesRoundTo 23 = .ok (.iload_n 3, 1) := by decide +kernel
theorem dX6_goesRoundTo_24 : decode cX6_goesRoundTo 24 = .ok (.if_icmp .ge 24, 3) := by decide +kernel
theorem dX6_goesRoundTo_27 : decode cX6_goesRoundTo 27 = .ok (.iload 4, 2) := by decide +kernel
theorem dX6_goesRoundTo_29 : decode cX6_goesRoundTo 29 = .ok (.ifCond .ne 19, 3) := by decide +kernel
theorem dX6_goesRoundTo_32 : decode cX6_goesRoundTo 32 = .ok (.aload_n 0, 1) := by decide +kernel
theorem dX6_goesRoundTo_33 : decode cX6_goesRoundTo 33 = .ok (.iload 5, 2) := by decide +kernel
theorem dX6_goesRoundTo_35 : decode cX6_goesRoundTo 35 = .ok (.iload_n 1, 1) := by decide +kernel
theorem dX6_goesRoundTo_36 : decode cX6_goesRoundTo 36 = .ok (.iload_n 2, 1) := by decide +kernel
theorem dX6_goesRoundTo_37 : decode cX6_goesRoundTo 37 = .ok (.invokevirtual 44, 3) := by decide +kernel
theorem dX6_goesRoundTo_40 : decode cX6_goesRoundTo 40 = .ok (.istore 4, 2) := by decide +kernel
theorem dX6_goesRoundTo_42 : decode cX6_goesRoundTo 42 = .ok (.iinc 5 1, 3) := by decide +kernel
theorem dX6_goesRoundTo_45 : decode cX6_goesRoundTo 45 = .ok (.goto (-24), 3) := by decide +kernel
theorem dX6_goesRoundTo_48 : decode cX6_goesRoundTo 48 = .ok (.iload 4, 2) := by decide +kernel
theorem dX6_goesRoundTo_50 : decode cX6_goesRoundTo 50 = .ok (.ireturn, 1) := by decide +kernel
theorem dX6_isRotation_0 : decode cX6_isRotation 0 = .ok (.aload_n 0, 1) := by decide +kernel
theorem dX6_isRotation_1 : decode cX6_isRotation 1 = .ok (.getfield 15, 3) := by decide +kernel
theorem dX6_isRotation_4 : decode cX6_isRotation 4 = .ok (.iconst 0, 1) := by decide +kernel
theorem dX6_isRotation_5 : decode cX6_isRotation 5 = .ok (.iaload, 1) := by decide +kernel
theorem dX6_isRotation_6 : decode cX6_isRotation 6 = .ok (.istore 4, 2) := by decide +kernel
theorem dX6_isRotation_8 : decode cX6_isRotation 8 = .ok (.iconst 0, 1) := by decide +kernel
theorem dX6_isRotation_9 : decode cX6_isRotation 9 = .ok (.istore 5, 2) := by decide +kernel
