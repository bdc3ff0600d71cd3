theorem dX6_isRotation_11 : decode cX6_isRotation 11 = .ok (.iload 5, 2) := by decide +kernel
theorem dX6_isRotation_13 : decode cX6_isRotation 13 = .ok (.iload 4, 2) := by decide +kernel
theorem dX6_isRotation_15 : decode cX6_isRotation 15 = .ok (.if_icmp .ge 55, 3) := by decide +kernel
theorem dX6_isRotation_18 : decode cX6_isRotation 18 = .ok (.aload_n 0, 1) := by decide +kernel
theorem dX6_isRotation_19 : decode cX6_isRotation 19 = .ok (.getfield 11, 3) := by decide +kernel
theorem dX6_isRotation_22 : decode cX6_isRotation 22 = .ok (.iload 5, 2) := by decide +kernel
theorem dX6_isRotation_24 : decode cX6_isRotation 24 = .ok (.iload_n 1, 1) := by decide +kernel
theorem dX6_isRotation_25 : decode cX6_isRotation 25 = .ok (.iadd, 1) := by decide +kernel
theorem dX6_isRotation_26 : decode cX6_isRotation 26 = .ok (.iload 4, 2) := by decide +kernel
theorem dX6_isRotation_28 : decode cX6_isRotation 28 = .ok (.irem, 1) := by decide +kernel
theorem dX6_isRotation_29 : decode cX6_isRotation 29 = .ok (.iaload, 1) := by decide +kernel
theorem dX6_isRotation_30 : decode cX6_isRotation 30 = .ok (.istore 6, 2) := by decide +kernel
theorem dX6_isRotation_32 : decode cX6_isRotation 32 = .ok (.iload_n 3, 1) := by decide +kernel
theorem dX6_isRotation_33 : decode cX6_isRotation 33 = .ok (.ifCond .eq 15, 3) := by decide +kernel
theorem dX6_isRotation_36 : decode cX6_isRotation 36 = .ok (.iload 6, 2) := by decide +kernel
theorem dX6_isRotation_38 : decode cX6_isRotation 38 = .ok (.iconst 2, 1) := by decide +kernel
theorem dX6_isRotation_39 : decode cX6_isRotation 39 = .ok (.if_icmp .ge 9, 3) := by decide +kernel
theorem dX6_isRotation_42 : decode cX6_isRotation 42 = .ok (.iconst 1, 1) := by decide +kernel
theorem dX6_isRotation_43 : decode cX6_isRotation 43 = .ok (.iload 6, 2) := by decide +kernel
theorem dX6_isRotation_45 : decode cX6_isRotation 45 = .ok (.isub, 1) := by decide +kernel
theorem dX6_isRotation_46 : decode cX6_isRotation 46 = .ok (.istore 6, 2) := by decide +kernel
theorem dX6_isRotation_48 : decode cX6_isRotation 48 = .ok (.aload_n 0, 1) := by decide +kernel
theorem dX6_isRotation_49 : decode cX6_isRotation 49 = .ok (.getfield 11, 3) := by decide +kernel
theorem dX6_isRotation_52 : decode cX6_isRotation 52 = .ok (.iload_n 2, 1) := by decide +kernel
theorem dX6_isRotation_53 : decode cX6_isRotation 53 = .ok (.iload 5, 2) := by decide +kernel
theorem dX6_isRotation_55 : decode cX6_isRotation 55 = .ok (.iadd, 1) := by decide +kernel
theorem dX6_isRotation_56 : decode cX6_isRotation 56 = .ok (.iaload, 1) := by decide +kernel
theorem dX6_isRotation_57 : decode cX6_isRotation 57 = .ok (.iload 6, 2) := by decide +kernel
theorem dX6_isRotation_59 : decode cX6_isRotation 59 = .ok (.if_icmp .eq 5, 3) := by decide +kernel
theorem dX6_isRotation_62 : decode cX6_isRotation 62 = .ok (.iconst 0, 1) := by decide +kernel
theorem dX6_isRotation_63 : decode cX6_isRotation 63 = .ok (.ireturn, 1) := by decide +kernel
theorem dX6_isRotation_64 : decode cX6_isRotation 64 = .ok (.iinc 5 1, 3) := by decide +kernel
theorem dX6_isRotation_67 : decode cX6_isRotation 67 = .ok (.goto (-56), 3) := by decide +kernel
theorem dX6_isRotation_70 : decode cX6_isRotation 70 = .ok (.iconst 1, 1) := by decide +kernel
theorem dX6_isRotation_71 : decode cX6_isRotation 71 = .ok (.ireturn, 1) := by decide +kernel
theorem dX6_walk_0 : decode cX6_walk 0 = .ok (.iconst 0, 1) := by decide +kernel
theorem dX6_walk_1 : decode cX6_walk 1 = .ok (.istore_n 1, 1) := by decide +kernel
theorem dX6_walk_2 : decode cX6_walk 2 = .ok (.iconst 0, 1) := by decide +kernel
theorem dX6_walk_3 : decode cX6_walk 3 = .ok (.istore_n 2, 1) := by decide +kernel
theorem dX6_walk_4 : decode cX6_walk 4 = .ok (.aload_n 0, 1) := by decide +kernel
theorem dX6_walk_5 : decode cX6_walk 5 = .ok (.iconst 0, 1) := by decide +kernel
theorem dX6_walk_6 : decode cX6_walk 6 = .ok (.putfield 52, 3) := by decide +kernel
theorem dX6_walk_9 : decode cX6_walk 9 = .ok (.aload_n 0, 1) := by decide +kernel
theorem dX6_walk_10 : decode cX6_walk 10 = .ok (.iconst 0, 1) := by decide +kernel
theorem dX6_walk_11 : decode cX6_walk 11 = .ok (.putfield 61, 3) := by decide +kernel
theorem dX6_walk_14 : decode cX6_walk 14 = .ok (.aload_n 0, 1) := by decide +kernel
theorem dX6_walk_15 : decode cX6_walk 15 = .ok (.iconst 0, 1) := by decide +kernel
theorem dX6_walk_16 : decode cX6_walk 16 = .ok (.putfield 72, 3) := by decide +kernel
theorem dX6_walk_19 : decode cX6_walk 19 = .ok (.aload_n 0, 1) := by decide +kernel
theorem dX6_walk_20 : decode cX6_walk 20 = .ok (.getfield 30, 3) := by decide +kernel
theorem dX6_walk_23 : decode cX6_walk 23 = .ok (.iconst 0, 1) := by decide +kernel
theorem dX6_walk_24 : decode cX6_walk 24 = .ok (.iconst 0, 1) := by decide +kernel
theorem dX6_walk_25 : decode cX6_walk 25 = .ok (.iastore, 1) := by decide +kernel
theorem dX6_walk_26 : decode cX6_walk 26 = .ok (.iconst 0, 1) := by decide +kernel
theorem dX6_walk_27 : decode cX6_walk 27 = .ok (.istore_n 3, 1) := by decide +kernel
theorem dX6_walk_28 : decode cX6_walk 28 = .ok (.iload_n 3, 1) := by decide +kernel
theorem dX6_walk_29 : decode cX6_walk 29 = .ok (.aload_n 0, 1) := by decide +kernel
theorem dX6_walk_30 : decode cX6_walk 30 = .ok (.getfield 33, 3) := by decide +kernel
theorem dX6_walk_33 : decode cX6_walk 33 = .ok (.if_icmp .ge 120, 3) := by decide +kernel
theorem dX6_walk_36 : decode cX6_walk 36 = .ok (.aload_n 0, 1) := by decide +kernel
theorem dX6_walk_37 : decode cX6_walk 37 = .ok (.getfield 18, 3) := by decide +kernel
theorem dX6_walk_40 : decode cX6_walk 40 = .ok (.iload_n 3, 1) := by decide +kernel
theorem dX6_walk_41 : decode cX6_walk 41 = .ok (.iaload, 1) := by decide +kernel
theorem dX6_walk_42 : decode cX6_walk 42 = .ok (.ifCond .eq 26, 3) := by decide +kernel
theorem dX6_walk_45 : decode cX6_walk 45 = .ok (.iload_n 1, 1) := by decide +kernel
theorem dX6_walk_46 : decode cX6_walk 46 = .ok (.aload_n 0, 1) := by decide +kernel
theorem dX6_walk_47 : decode cX6_walk 47 = .ok (.getfield 18, 3) := by decide +kernel
theorem dX6_walk_50 : decode cX6_walk 50 = .ok (.iload_n 3, 1) := by decide +kernel
theorem dX6_walk_51 : decode cX6_walk 51 = .ok (.iaload, 1) := by decide +kernel
theorem dX6_walk_52 : decode cX6_walk 52 = .ok (.iconst 2, 1) := by decide +kernel
theorem dX6_walk_53 : decode cX6_walk 53 = .ok (.if_icmp .ne 7, 3) := by decide +kernel
theorem dX6_walk_56 : decode cX6_walk 56 = .ok (.iconst 1, 1) := by decide +kernel
theorem dX6_walk_57 : decode cX6_walk 57 = .ok (.goto 4, 3) := by decide +kernel
theorem dX6_walk_60 : decode cX6_walk 60 = .ok (.iconst 3, 1) := by decide +kernel
theorem dX6_walk_61 : decode cX6_walk 61 = .ok (.iadd, 1) := by decide +kernel
theorem dX6_walk_62 : decode cX6_walk 62 = .ok (.iconst 3, 1) := by decide +kernel
theorem dX6_walk_63 : decode cX6_walk 63 = .ok (.iand, 1) := by decide +kernel
theorem dX6_walk_64 : decode cX6_walk 64 = .ok (.istore_n 1, 1) := by decide +kernel
theorem dX6_walk_65 : decode cX6_walk 65 = .ok (.goto 82, 3) := by decide +kernel
theorem dX6_walk_68 : decode cX6_walk 68 = .ok (.aload_n 0, 1) := by decide +kernel
theorem dX6_walk_69 : decode cX6_walk 69 = .ok (.dup, 1) := by decide +kernel
theorem dX6_walk_70 : decode cX6_walk 70 = .ok (.getfield 72, 3) := by decide +kernel
theorem dX6_walk_73 : decode cX6_walk 73 = .ok (.aload_n 0, 1) := by decide +kernel
theorem dX6_walk_74 : decode cX6_walk 74 = .ok (.getfield 52, 3) := by decide +kernel
theorem dX6_walk_77 : decode cX6_walk 77 = .ok (.getstatic 85, 3) := by decide +kernel
theorem dX6_walk_80 : decode cX6_walk 80 = .ok (.iload_n 1, 1) := by decide +kernel
theorem dX6_walk_81 : decode cX6_walk 81 = .ok (.iaload, 1) := by decide +kernel
theorem dX6_walk_82 : decode cX6_walk 82 = .ok (.imul, 1) := by decide +kernel
theorem dX6_walk_83 : decode cX6_walk 83 = .ok (.aload_n 0, 1) := by decide +kernel
theorem dX6_walk_84 : decode cX6_walk 84 = .ok (.getfield 61, 3) := by decide +kernel
theorem dX6_walk_87 : decode cX6_walk 87 = .ok (.getstatic 88, 3) := by decide +kernel
theorem dX6_walk_90 : decode cX6_walk 90 = .ok (.iload_n 1, 1) := by decide +kernel
theorem dX6_walk_91 : decode cX6_walk 91 = .ok (.iaload, 1) := by decide +kernel
theorem dX6_walk_92 : decode cX6_walk 92 = .ok (.imul, 1) := by decide +kernel
theorem dX6_walk_93 : decode cX6_walk 93 = .ok (.isub, 1) := by decide +kernel
theorem dX6_walk_94 : decode cX6_walk 94 = .ok (.iadd, 1) := by decide +kernel
theorem dX6_walk_95 : decode cX6_walk 95 = .ok (.putfield 72, 3) := by decide +kernel
theorem dX6_walk_98 : decode cX6_walk 98 = .ok (.aload_n 0, 1) := by decide +kernel
theorem dX6_walk_99 : decode cX6_walk 99 = .ok (.dup, 1) := by decide +kernel
theorem dX6_walk_100 : decode cX6_walk 100 = .ok (.getfield 52, 3) := by decide +kernel
theorem dX6_walk_103 : decode cX6_walk 103 = .ok (.getstatic 88, 3) := by decide +kernel
theorem dX6_walk_106 : decode cX6_walk 106 = .ok (.iload_n 1, 1) := by decide +kernel
theorem dX6_walk_107 : decode cX6_walk 107 = .ok (.iaload, 1) := by decide +kernel
theorem dX6_walk_108 : decode cX6_walk 108 = .ok (.iadd, 1) := by decide +kernel
theorem dX6_walk_109 : decode cX6_walk 109 = .ok (.putfield 52, 3) := by decide +kernel
theorem dX6_walk_112 : decode cX6_walk 112 = .ok (.aload_n 0, 1) := by decide +kernel
theorem dX6_walk_113 : decode cX6_walk 113 = .ok (.dup, 1) := by decide +kernel
theorem dX6_walk_114 : decode cX6_walk 114 = .ok (.getfield 61, 3) := by decide +kernel
theorem dX6_walk_117 : decode cX6_walk 117 = .ok (.getstatic 85, 3) := by decide +kernel
theorem dX6_walk_120 : decode cX6_walk 120 = .ok (.iload_n 1, 1) := by decide +kernel
theorem dX6_walk_121 : decode cX6_walk 121 = .ok (.iaload, 1) := by decide +kernel
theorem dX6_walk_122 : decode cX6_walk 122 = .ok (.iadd, 1) := by decide +kernel
theorem dX6_walk_123 : decode cX6_walk 123 = .ok (.putfield 61, 3) := by decide +kernel
theorem dX6_walk_126 : decode cX6_walk 126 = .ok (.iinc 2 1, 3) := by decide +kernel
theorem dX6_walk_129 : decode cX6_walk 129 = .ok (.aload_n 0, 1) := by decide +kernel
theorem dX6_walk_130 : decode cX6_walk 130 = .ok (.getfield 30, 3) := by decide +kernel
theorem dX6_walk_133 : decode cX6_walk 133 = .ok (.iload_n 2, 1) := by decide +kernel
theorem dX6_walk_134 : decode cX6_walk 134 = .ok (.bipush 49, 2) := by decide +kernel
theorem dX6_walk_136 : decode cX6_walk 136 = .ok (.aload_n 0, 1) := by decide +kernel
theorem dX6_walk_137 : decode cX6_walk 137 = .ok (.getfield 61, 3) := by decide +kernel
theorem dX6_walk_140 : decode cX6_walk 140 = .ok (.imul, 1) := by decide +kernel
theorem dX6_walk_141 : decode cX6_walk 141 = .ok (.aload_n 0, 1) := by decide +kernel
theorem dX6_walk_142 : decode cX6_walk 142 = .ok (.getfield 52, 3) := by decide +kernel
theorem dX6_walk_145 : decode cX6_walk 145 = .ok (.iadd, 1) := by decide +kernel
theorem dX6_walk_146 : decode cX6_walk 146 = .ok (.iastore, 1) := by decide +kernel
theorem dX6_walk_147 : decode cX6_walk 147 = .ok (.iinc 3 1, 3) := by decide +kernel
theorem dX6_walk_150 : decode cX6_walk 150 = .ok (.goto (-122), 3) := by decide +kernel
theorem dX6_walk_153 : decode cX6_walk 153 = .ok (.iload_n 2, 1) := by decide +kernel
theorem dX6_walk_154 : decode cX6_walk 154 = .ok (.ireturn, 1) := by decide +kernel
theorem dX6_firstTime_0 : decode cX6_firstTime 0 = .ok (.iconst 0, 1) := by decide +kernel
theorem dX6_firstTime_1 : decode cX6_firstTime 1 = .ok (.istore_n 2, 1) := by decide +kernel
theorem dX6_firstTime_2 : decode cX6_firstTime 2 = .ok (.iload_n 2, 1) := by decide +kernel
theorem dX6_firstTime_3 : decode cX6_firstTime 3 = .ok (.iload_n 1, 1) := by decide +kernel
theorem dX6_firstTime_4 : decode cX6_firstTime 4 = .ok (.if_icmp .ge 26, 3) := by decide +kernel
theorem dX6_firstTime_7 : decode cX6_firstTime 7 = .ok (.aload_n 0, 1) := by decide +kernel
theorem dX6_firstTime_8 : decode cX6_firstTime 8 = .ok (.getfield 30, 3) := by decide +kernel
theorem dX6_firstTime_11 : decode cX6_firstTime 11 = .ok (.iload_n 2, 1) := by decide +kernel
theorem dX6_firstTime_12 : decode cX6_firstTime 12 = .ok (.iaload, 1) := by decide +kernel
theorem dX6_firstTime_13 : decode cX6_firstTime 13 = .ok (.aload_n 0, 1) := by decide +kernel
theorem dX6_firstTime_14 : decode cX6_firstTime 14 = .ok (.getfield 30, 3) := by decide +kernel
theorem dX6_firstTime_17 : decode cX6_firstTime 17 = .ok (.iload_n 1, 1) := by decide +kernel
theorem dX6_firstTime_18 : decode cX6_firstTime 18 = .ok (.iaload, 1) := by decide +kernel
theorem dX6_firstTime_19 : decode cX6_firstTime 19 = .ok (.if_icmp .ne 5, 3) := by decide +kernel
theorem dX6_firstTime_22 : decode cX6_firstTime 22 = .ok (.iconst 0, 1) := by decide +kernel
theorem dX6_firstTime_23 : decode cX6_firstTime 23 = .ok (.ireturn, 1) := by decide +kernel
theorem dX6_firstTime_24 : decode cX6_firstTime 24 = .ok (.iinc 2 1, 3) := by decide +kernel
theorem dX6_firstTime_27 : decode cX6_firstTime 27 = .ok (.goto (-25), 3) := by decide +kernel
theorem dX6_firstTime_30 : decode cX6_firstTime 30 = .ok (.iconst 1, 1) := by decide +kernel
theorem dX6_firstTime_31 : decode cX6_firstTime 31 = .ok (.ireturn, 1) := by decide +kernel
theorem dX6_comesBack_0 : decode cX6_comesBack 0 = .ok (.iload_n 1, 1) := by decide +kernel
theorem dX6_comesBack_1 : decode cX6_comesBack 1 = .ok (.iconst 1, 1) := by decide +kernel
theorem dX6_comesBack_2 : decode cX6_comesBack 2 = .ok (.iadd, 1) := by decide +kernel
theorem dX6_comesBack_3 : decode cX6_comesBack 3 = .ok (.istore_n 3, 1) := by decide +kernel
theorem dX6_comesBack_4 : decode cX6_comesBack 4 = .ok (.iload_n 3, 1) := by decide +kernel
theorem dX6_comesBack_5 : decode cX6_comesBack 5 = .ok (.iload_n 2, 1) := by decide +kernel
theorem dX6_comesBack_6 : decode cX6_comesBack 6 = .ok (.if_icmp .gt 26, 3) := by decide +kernel
theorem dX6_comesBack_9 : decode cX6_comesBack 9 = .ok (.aload_n 0, 1) := by decide +kernel
theorem dX6_comesBack_10 : decode cX6_comesBack 10 = .ok (.getfield 30, 3) := by decide +kernel
theorem dX6_comesBack_13 : decode cX6_comesBack 13 = .ok (.iload_n 3, 1) := by decide +kernel
theorem dX6_comesBack_14 : decode cX6_comesBack 14 = .ok (.iaload, 1) := by decide +kernel
theorem dX6_comesBack_15 : decode cX6_comesBack 15 = .ok (.aload_n 0, 1) := by decide +kernel
theorem dX6_comesBack_16 : decode cX6_comesBack 16 = .ok (.getfield 30, 3) := by decide +kernel
theorem dX6_comesBack_19 : decode cX6_comesBack 19 = .ok (.iload_n 1, 1) := by decide +kernel
theorem dX6_comesBack_20 : decode cX6_comesBack 20 = .ok (.iaload, 1) := by decide +kernel
theorem dX6_comesBack_21 : decode cX6_comesBack 21 = .ok (.if_icmp .ne 5, 3) := by decide +kernel
theorem dX6_comesBack_24 : decode cX6_comesBack 24 = .ok (.iconst 1, 1) := by decide +kernel
theorem dX6_comesBack_25 : decode cX6_comesBack 25 = .ok (.ireturn, 1) := by decide +kernel
theorem dX6_comesBack_26 : decode cX6_comesBack 26 = .ok (.iinc 3 1, 3) := by decide +kernel
theorem dX6_comesBack_29 : decode cX6_comesBack 29 = .ok (.goto (-25), 3) := by decide +kernel
theorem dX6_comesBack_32 : decode cX6_comesBack 32 = .ok (.iconst 0, 1) := by decide +kernel
theorem dX6_comesBack_33 : decode cX6_comesBack 33 = .ok (.ireturn, 1) := by decide +kernel
theorem dX6_fewestTo_0 : decode cX6_fewestTo 0 = .ok (.iload_n 2, 1) := by decide +kernel
theorem dX6_fewestTo_1 : decode cX6_fewestTo 1 = .ok (.iconst (-1), 1) := by decide +kernel
theorem dX6_fewestTo_2 : decode cX6_fewestTo 2 = .ok (.if_icmp .ne 5, 3) := by decide +kernel
theorem dX6_fewestTo_5 : decode cX6_fewestTo 5 = .ok (.iload_n 1, 1) := by decide +kernel
theorem dX6_fewestTo_6 : decode cX6_fewestTo 6 = .ok (.ireturn, 1) := by decide +kernel
theorem dX6_fewestTo_7 : decode cX6_fewestTo 7 = .ok (.ldc 91, 2) := by decide +kernel
theorem dX6_fewestTo_9 : decode cX6_fewestTo 9 = .ok (.istore_n 3, 1) := by decide +kernel
theorem dX6_fewestTo_10 : decode cX6_fewestTo 10 = .ok (.iconst 0, 1) := by decide +kernel
theorem dX6_fewestTo_11 : decode cX6_fewestTo 11 = .ok (.istore 4, 2) := by decide +kernel
theorem dX6_fewestTo_13 : decode cX6_fewestTo 13 = .ok (.iload 4, 2) := by decide +kernel
theorem dX6_fewestTo_15 : decode cX6_fewestTo 15 = .ok (.aload_n 0, 1) := by decide +kernel
theorem dX6_fewestTo_16 : decode cX6_fewestTo 16 = .ok (.getfield 37, 3) := by decide +kernel
theorem dX6_fewestTo_19 : decode cX6_fewestTo 19 = .ok (.if_icmp .ge 45, 3) := by decide +kernel
theorem dX6_fewestTo_22 : decode cX6_fewestTo 22 = .ok (.aload_n 0, 1) := by decide +kernel
theorem dX6_fewestTo_23 : decode cX6_fewestTo 23 = .ok (.getfield 21, 3) := by decide +kernel
theorem dX6_fewestTo_26 : decode cX6_fewestTo 26 = .ok (.iload 4, 2) := by decide +kernel
theorem dX6_fewestTo_28 : decode cX6_fewestTo 28 = .ok (.iaload, 1) := by decide +kernel
theorem dX6_fewestTo_29 : decode cX6_fewestTo 29 = .ok (.iload_n 2, 1) := by decide +kernel
theorem dX6_fewestTo_30 : decode cX6_fewestTo 30 = .ok (.if_icmp .ne 28, 3) := by decide +kernel
theorem dX6_fewestTo_33 : decode cX6_fewestTo 33 = .ok (.iload_n 3, 1) := by decide +kernel
theorem dX6_fewestTo_34 : decode cX6_fewestTo 34 = .ok (.aload_n 0, 1) := by decide +kernel
theorem dX6_fewestTo_35 : decode cX6_fewestTo 35 = .ok (.getfield 27, 3) := by decide +kernel
theorem dX6_fewestTo_38 : decode cX6_fewestTo 38 = .ok (.iload 4, 2) := by decide +kernel
theorem dX6_fewestTo_40 : decode cX6_fewestTo 40 = .ok (.iaload, 1) := by decide +kernel
theorem dX6_fewestTo_41 : decode cX6_fewestTo 41 = .ok (.aload_n 0, 1) := by decide +kernel
theorem dX6_fewestTo_42 : decode cX6_fewestTo 42 = .ok (.getfield 24, 3) := by decide +kernel
theorem dX6_fewestTo_45 : decode cX6_fewestTo 45 = .ok (.iload 4, 2) := by decide +kernel
theorem dX6_fewestTo_47 : decode cX6_fewestTo 47 = .ok (.iaload, 1) := by decide +kernel
theorem dX6_fewestTo_48 : decode cX6_fewestTo 48 = .ok (.iload_n 1, 1) := by decide +kernel
theorem dX6_fewestTo_49 : decode cX6_fewestTo 49 = .ok (.isub, 1) := by decide +kernel
theorem dX6_fewestTo_50 : decode cX6_fewestTo 50 = .ok (.invokestatic 55, 3) := by decide +kernel
theorem dX6_fewestTo_53 : decode cX6_fewestTo 53 = .ok (.iadd, 1) := by decide +kernel
theorem dX6_fewestTo_54 : decode cX6_fewestTo 54 = .ok (.invokestatic 92, 3) := by decide +kernel
theorem dX6_fewestTo_57 : decode cX6_fewestTo 57 = .ok (.istore_n 3, 1) := by decide +kernel
theorem dX6_fewestTo_58 : decode cX6_fewestTo 58 = .ok (.iinc 4 1, 3) := by decide +kernel
theorem dX6_fewestTo_61 : decode cX6_fewestTo 61 = .ok (.goto (-48), 3) := by decide +kernel
theorem dX6_fewestTo_64 : decode cX6_fewestTo 64 = .ok (.iload_n 3, 1) := by decide +kernel
theorem dX6_fewestTo_65 : decode cX6_fewestTo 65 = .ok (.ireturn, 1) := by decide +kernel
theorem dX7_init_0 : decode cX7_init 0 = .ok (.aload_n 0, 1) := by decide +kernel
theorem dX7_init_1 : decode cX7_init 1 = .ok (.invokespecial 3, 3) := by decide +kernel
theorem dX7_init_4 : decode cX7_init 4 = .ok (.aload_n 0, 1) := by decide +kernel
theorem dX7_init_5 : decode cX7_init 5 = .ok (.bipush 16, 2) := by decide +kernel
theorem dX7_init_7 : decode cX7_init 7 = .ok (.anewarray 9, 3) := by decide +kernel
theorem dX7_init_10 : decode cX7_init 10 = .ok (.putfield 11, 3) := by decide +kernel
theorem dX7_init_13 : decode cX7_init 13 = .ok (.aload_n 0, 1) := by decide +kernel
theorem dX7_init_14 : decode cX7_init 14 = .ok (.sipush 144, 3) := by decide +kernel
theorem dX7_init_17 : decode cX7_init 17 = .ok (.newarray .int, 2) := by decide +kernel
theorem dX7_init_19 : decode cX7_init 19 = .ok (.putfield 17, 3) := by decide +kernel
theorem dX7_init_22 : decode cX7_init 22 = .ok (.iconst 0, 1) := by decide +kernel
theorem dX7_init_23 : decode cX7_init 23 = .ok (.istore_n 1, 1) := by decide +kernel
theorem dX7_init_24 : decode cX7_init 24 = .ok (.iload_n 1, 1) := by decide +kernel
theorem dX7_init_25 : decode cX7_init 25 = .ok (.bipush 16, 2) := by decide +kernel
theorem dX7_init_27 : decode cX7_init 27 = .ok (.if_icmp .ge 22, 3) := by decide +kernel
theorem dX7_init_30 : decode cX7_init 30 = .ok (.aload_n 0, 1) := by decide +kernel
theorem dX7_init_31 : decode cX7_init 31 = .ok (.getfield 11, 3) := by decide +kernel
theorem dX7_init_34 : decode cX7_init 34 = .ok (.iload_n 1, 1) := by decide +kernel
theorem dX7_init_35 : decode cX7_init 35 = .ok (.new 9, 3) := by decide +kernel
theorem dX7_init_38 : decode cX7_init 38 = .ok (.dup, 1) := by decide +kernel
theorem dX7_init_39 : decode cX7_init 39 = .ok (.invokespecial 21, 3) := by decide +kernel
theorem dX7_init_42 : decode cX7_init 42 = .ok (.aastore, 1) := by decide +kernel
theorem dX7_init_43 : decode cX7_init 43 = .ok (.iinc 1 1, 3) := by decide +kernel
theorem dX7_init_46 : decode cX7_init 46 = .ok (.goto (-22), 3) := by decide +kernel
theorem dX7_init_49 : decode cX7_init 49 = .ok (.return_, 1) := by decide +kernel
theorem dX7_copyFrom_0 : decode cX7_copyFrom 0 = .ok (.aload_n 1, 1) := by decide +kernel
theorem dX7_copyFrom_1 : decode cX7_copyFrom 1 = .ok (.getfield 17, 3) := by decide +kernel
theorem dX7_copyFrom_4 : decode cX7_copyFrom 4 = .ok (.iconst 0, 1) := by decide +kernel
theorem dX7_copyFrom_5 : decode cX7_copyFrom 5 = .ok (.aload_n 0, 1) := by decide +kernel
theorem dX7_copyFrom_6 : decode cX7_copyFrom 6 = .ok (.getfield 17, 3) := by decide +kernel
theorem dX7_copyFrom_9 : decode cX7_copyFrom 9 = .ok (.iconst 0, 1) := by decide +kernel
theorem dX7_copyFrom_10 : decode cX7_copyFrom 10 = .ok (.sipush 144, 3) := by decide +kernel
theorem dX7_copyFrom_13 : decode cX7_copyFrom 13 = .ok (.invokestatic 22, 3) := by decide +kernel
theorem dX7_copyFrom_16 : decode cX7_copyFrom 16 = .ok (.iconst 0, 1) := by decide +kernel
theorem dX7_copyFrom_17 : decode cX7_copyFrom 17 = .ok (.istore_n 2, 1) := by decide +kernel
theorem dX7_copyFrom_18 : decode cX7_copyFrom 18 = .ok (.iload_n 2, 1) := by decide +kernel
theorem dX7_copyFrom_19 : decode cX7_copyFrom 19 = .ok (.aload_n 1, 1) := by decide +kernel
theorem dX7_copyFrom_20 : decode cX7_copyFrom 20 = .ok (.getfield 28, 3) := by decide +kernel
theorem dX7_copyFrom_23 : decode cX7_copyFrom 23 = .ok (.if_icmp .ge 24, 3) := by decide +kernel
theorem dX7_copyFrom_26 : decode cX7_copyFrom 26 = .ok (.aload_n 0, 1) := by decide +kernel
theorem dX7_copyFrom_27 : decode cX7_copyFrom 27 = .ok (.getfield 11, 3) := by decide +kernel
theorem dX7_copyFrom_30 : decode cX7_copyFrom 30 = .ok (.iload_n 2, 1) := by decide +kernel
theorem dX7_copyFrom_31 : decode cX7_copyFrom 31 = .ok (.aaload, 1) := by decide +kernel
theorem dX7_copyFrom_32 : decode cX7_copyFrom 32 = .ok (.aload_n 1, 1) := by decide +kernel
theorem dX7_copyFrom_33 : decode cX7_copyFrom 33 = .ok (.getfield 11, 3) := by decide +kernel
theorem dX7_copyFrom_36 : decode cX7_copyFrom 36 = .ok (.iload_n 2, 1) := by decide +kernel
theorem dX7_copyFrom_37 : decode cX7_copyFrom 37 = .ok (.aaload, 1) := by decide +kernel
theorem dX7_copyFrom_38 : decode cX7_copyFrom 38 = .ok (.invokevirtual 32, 3) := by decide +kernel
theorem dX7_copyFrom_41 : decode cX7_copyFrom 41 = .ok (.iinc 2 1, 3) := by decide +kernel
theorem dX7_copyFrom_44 : decode cX7_copyFrom 44 = .ok (.goto (-26), 3) := by decide +kernel
theorem dX7_copyFrom_47 : decode cX7_copyFrom 47 = .ok (.aload_n 0, 1) := by decide +kernel
theorem dX7_copyFrom_48 : decode cX7_copyFrom 48 = .ok (.aload_n 1, 1) := by decide +kernel
theorem dX7_copyFrom_49 : decode cX7_copyFrom 49 = .ok (.getfield 28, 3) := by decide +kernel
theorem dX7_copyFrom_52 : decode cX7_copyFrom 52 = .ok (.putfield 28, 3) := by decide +kernel
theorem dX7_copyFrom_55 : decode cX7_copyFrom 55 = .ok (.aload_n 0, 1) := by decide +kernel
theorem dX7_copyFrom_56 : decode cX7_copyFrom 56 = .ok (.aload_n 1, 1) := by decide +kernel
theorem dX7_copyFrom_57 : decode cX7_copyFrom 57 = .ok (.getfield 36, 3) := by decide +kernel
theorem dX7_copyFrom_60 : decode cX7_copyFrom 60 = .ok (.putfield 36, 3) := by decide +kernel
theorem dX7_copyFrom_63 : decode cX7_copyFrom 63 = .ok (.aload_n 0, 1) := by decide +kernel
theorem dX7_copyFrom_64 : decode cX7_copyFrom 64 = .ok (.aload_n 1, 1) := by decide +kernel
theorem dX7_copyFrom_65 : decode cX7_copyFrom 65 = .ok (.getfield 39, 3) := by decide +kernel
theorem dX7_copyFrom_68 : decode cX7_copyFrom 68 = .ok (.putfield 39, 3) := by decide +kernel
theorem dX7_copyFrom_71 : decode cX7_copyFrom 71 = .ok (.aload_n 0, 1) := by decide +kernel
theorem dX7_copyFrom_72 : decode cX7_copyFrom 72 = .ok (.aload_n 1, 1) := by decide +kernel
theorem dX7_copyFrom_73 : decode cX7_copyFrom 73 = .ok (.getfield 42, 3) := by decide +kernel
theorem dX7_copyFrom_76 : decode cX7_copyFrom 76 = .ok (.putfield 42, 3) := by decide +kernel
theorem dX7_copyFrom_79 : decode cX7_copyFrom 79 = .ok (.aload_n 0, 1) := by decide +kernel
theorem dX7_copyFrom_80 : decode cX7_copyFrom 80 = .ok (.aload_n 1, 1) := by decide +kernel
theorem dX7_copyFrom_81 : decode cX7_copyFrom 81 = .ok (.getfield 45, 3) := by decide +kernel
theorem dX7_copyFrom_84 : decode cX7_copyFrom 84 = .ok (.putfield 45, 3) := by decide +kernel
theorem dX7_copyFrom_87 : decode cX7_copyFrom 87 = .ok (.return_, 1) := by decide +kernel
theorem dX7_has_0 : decode cX7_has 0 = .ok (.iload_n 1, 1) := by decide +kernel
theorem dX7_has_1 : decode cX7_has 1 = .ok (.ifCond .lt 15, 3) := by decide +kernel
theorem dX7_has_4 : decode cX7_has 4 = .ok (.iload_n 1, 1) := by decide +kernel
theorem dX7_has_5 : decode cX7_has 5 = .ok (.aload_n 0, 1) := by decide +kernel
theorem dX7_has_6 : decode cX7_has 6 = .ok (.getfield 28, 3) := by decide +kernel
theorem dX7_has_9 : decode cX7_has 9 = .ok (.if_icmp .ge 7, 3) := by decide +kernel
theorem dX7_has_12 : decode cX7_has 12 = .ok (.iconst 1, 1) := by decide +kernel
theorem dX7_has_13 : decode cX7_has 13 = .ok (.goto 4, 3) := by decide +kernel
theorem dX7_has_16 : decode cX7_has 16 = .ok (.iconst 0, 1) := by decide +kernel
theorem dX7_has_17 : decode cX7_has 17 = .ok (.ireturn, 1) := by decide +kernel
theorem dX7_hasIn_0 : decode cX7_hasIn 0 = .ok (.aload_n 0, 1) := by decide +kernel
theorem dX7_hasIn_1 : decode cX7_hasIn 1 = .ok (.iload_n 1, 1) := by decide +kernel
theorem dX7_hasIn_2 : decode cX7_hasIn 2 = .ok (.invokevirtual 48, 3) := by decide +kernel
theorem dX7_hasIn_5 : decode cX7_hasIn 5 = .ok (.ifCond .eq 19, 3) := by decide +kernel
theorem dX7_hasIn_8 : decode cX7_hasIn 8 = .ok (.aload_n 0, 1) := by decide +kernel
theorem dX7_hasIn_9 : decode cX7_hasIn 9 = .ok (.getfield 11, 3) := by decide +kernel
theorem dX7_hasIn_12 : decode cX7_hasIn 12 = .ok (.iload_n 1, 1) := by decide +kernel
theorem dX7_hasIn_13 : decode cX7_hasIn 13 = .ok (.aaload, 1) := by decide +kernel
theorem dX7_hasIn_14 : decode cX7_hasIn 14 = .ok (.getfield 52, 3) := by decide +kernel
theorem dX7_hasIn_17 : decode cX7_hasIn 17 = .ok (.ifCond .eq 7, 3) := by decide +kernel
theorem dX7_hasIn_20 : decode cX7_hasIn 20 = .ok (.iconst 1, 1) := by decide +kernel
theorem dX7_hasIn_21 : decode cX7_hasIn 21 = .ok (.goto 4, 3) := by decide +kernel
theorem dX7_hasIn_24 : decode cX7_hasIn 24 = .ok (.iconst 0, 1) := by decide +kernel
theorem dX7_hasIn_25 : decode cX7_hasIn 25 = .ok (.ireturn, 1) := by decide +kernel
theorem dX7_whoAt_0 : decode cX7_whoAt 0 = .ok (.iconst 0, 1) := by decide +kernel
theorem dX7_whoAt_1 : decode cX7_whoAt 1 = .ok (.istore_n 2, 1) := by decide +kernel
theorem dX7_whoAt_2 : decode cX7_whoAt 2 = .ok (.iload_n 2, 1) := by decide +kernel
theorem dX7_whoAt_3 : decode cX7_whoAt 3 = .ok (.aload_n 0, 1) := by decide +kernel
theorem dX7_whoAt_4 : decode cX7_whoAt 4 = .ok (.getfield 28, 3) := by decide +kernel
theorem dX7_whoAt_7 : decode cX7_whoAt 7 = .ok (.if_icmp .ge 36, 3) := by decide +kernel
theorem dX7_whoAt_10 : decode cX7_whoAt 10 = .ok (.aload_n 0, 1) := by decide +kernel
theorem dX7_whoAt_11 : decode cX7_whoAt 11 = .ok (.getfield 11, 3) := by decide +kernel
theorem dX7_whoAt_14 : decode cX7_whoAt 14 = .ok (.iload_n 2, 1) := by decide +kernel
theorem dX7_whoAt_15 : decode cX7_whoAt 15 = .ok (.aaload, 1) := by decide +kernel
theorem dX7_whoAt_16 : decode cX7_whoAt 16 = .ok (.getfield 52, 3) := by decide +kernel
theorem dX7_whoAt_19 : decode cX7_whoAt 19 = .ok (.ifCond .eq 18, 3) := by decide +kernel
theorem dX7_whoAt_22 : decode cX7_whoAt 22 = .ok (.aload_n 0, 1) := by decide +kernel
theorem dX7_whoAt_23 : decode cX7_whoAt 23 = .ok (.getfield 11, 3) := by decide +kernel
theorem dX7_whoAt_26 : decode cX7_whoAt 26 = .ok (.iload_n 2, 1) := by decide +kernel
theorem dX7_whoAt_27 : decode cX7_whoAt 27 = .ok (.aaload, 1) := by decide +kernel
theorem dX7_whoAt_28 : decode cX7_whoAt 28 = .ok (.invokevirtual 56, 3) := by decide +kernel
theorem dX7_whoAt_31 : decode cX7_whoAt 31 = .ok (.iload_n 1, 1) := by decide +kernel
theorem dX7_whoAt_32 : decode cX7_whoAt 32 = .ok (.if_icmp .ne 5, 3) := by decide +kernel
theorem dX7_whoAt_35 : decode cX7_whoAt 35 = .ok (.iload_n 2, 1) := by decide +kernel
theorem dX7_whoAt_36 : decode cX7_whoAt 36 = .ok (.ireturn, 1) := by decide +kernel
theorem dX7_whoAt_37 : decode cX7_whoAt 37 = .ok (.iinc 2 1, 3) := by decide +kernel
theorem dX7_whoAt_40 : decode cX7_whoAt 40 = .ok (.goto (-38), 3) := by decide +kernel
theorem dX7_whoAt_43 : decode cX7_whoAt 43 = .ok (.iconst (-1), 1) := by decide +kernel
theorem dX7_whoAt_44 : decode cX7_whoAt 44 = .ok (.ireturn, 1) := by decide +kernel
theorem dX7_insideSet_0 : decode cX7_insideSet 0 = .ok (.iconst 0, 1) := by decide +kernel
theorem dX7_insideSet_1 : decode cX7_insideSet 1 = .ok (.istore_n 1, 1) := by decide +kernel
theorem dX7_insideSet_2 : decode cX7_insideSet 2 = .ok (.iconst 0, 1) := by decide +kernel
theorem dX7_insideSet_3 : decode cX7_insideSet 3 = .ok (.istore_n 2, 1) := by decide +kernel
theorem dX7_insideSet_4 : decode cX7_insideSet 4 = .ok (.iload_n 2, 1) := by decide +kernel
theorem dX7_insideSet_5 : decode cX7_insideSet 5 = .ok (.aload_n 0, 1) := by decide +kernel
theorem dX7_insideSet_6 : decode cX7_insideSet 6 = .ok (.getfield 28, 3) := by decide +kernel
theorem dX7_insideSet_9 : decode cX7_insideSet 9 = .ok (.if_icmp .ge 27, 3) := by decide +kernel
theorem dX7_insideSet_12 : decode cX7_insideSet 12 = .ok (.aload_n 0, 1) := by decide +kernel
theorem dX7_insideSet_13 : decode cX7_insideSet 13 = .ok (.getfield 11, 3) := by decide +kernel
theorem dX7_insideSet_16 : decode cX7_insideSet 16 = .ok (.iload_n 2, 1) := by decide +kernel
theorem dX7_insideSet_17 : decode cX7_insideSet 17 = .ok (.aaload, 1) := by decide +kernel
theorem dX7_insideSet_18 : decode cX7_insideSet 18 = .ok (.getfield 52, 3) := by decide +kernel
theorem dX7_insideSet_21 : decode cX7_insideSet 21 = .ok (.ifCond .eq 9, 3) := by decide +kernel
theorem dX7_insideSet_24 : decode cX7_insideSet 24 = .ok (.iload_n 1, 1) := by decide +kernel
theorem dX7_insideSet_25 : decode cX7_insideSet 25 = .ok (.iconst 1, 1) := by decide +kernel
theorem dX7_insideSet_26 : decode cX7_insideSet 26 = .ok (.iload_n 2, 1) := by decide +kernel
theorem dX7_insideSet_27 : decode cX7_insideSet 27 = .ok (.ishl, 1) := by decide +kernel
theorem dX7_insideSet_28 : decode cX7_insideSet 28 = .ok (.ior, 1) := by decide +kernel
theorem dX7_insideSet_29 : decode cX7_insideSet 29 = .ok (.istore_n 1, 1) := by decide +kernel
theorem dX7_insideSet_30 : decode cX7_insideSet 30 = .ok (.iinc 2 1, 3) := by decide +kernel
theorem dX7_insideSet_33 : decode cX7_insideSet 33 = .ok (.goto (-29), 3) := by decide +kernel
theorem dX7_insideSet_36 : decode cX7_insideSet 36 = .ok (.iload_n 1, 1) := by decide +kernel
theorem dX7_insideSet_37 : decode cX7_insideSet 37 = .ok (.ireturn, 1) := by decide +kernel
theorem dX7_stones_0 : decode cX7_stones 0 = .ok (.iconst 0, 1) := by decide +kernel
theorem dX7_stones_1 : decode cX7_stones 1 = .ok (.istore_n 1, 1) := by decide +kernel
theorem dX7_stones_2 : decode cX7_stones 2 = .ok (.iconst 0, 1) := by decide +kernel
theorem dX7_stones_3 : decode cX7_stones 3 = .ok (.istore_n 2, 1) := by decide +kernel
theorem dX7_stones_4 : decode cX7_stones 4 = .ok (.iload_n 2, 1) := by decide +kernel
theorem dX7_stones_5 : decode cX7_stones 5 = .ok (.sipush 144, 3) := by decide +kernel
theorem dX7_stones_8 : decode cX7_stones 8 = .ok (.if_icmp .ge 22, 3) := by decide +kernel
theorem dX7_stones_11 : decode cX7_stones 11 = .ok (.aload_n 0, 1) := by decide +kernel
theorem dX7_stones_12 : decode cX7_stones 12 = .ok (.getfield 17, 3) := by decide +kernel
theorem dX7_stones_15 : decode cX7_stones 15 = .ok (.iload_n 2, 1) := by decide +kernel
theorem dX7_stones_16 : decode cX7_stones 16 = .ok (.iaload, 1) := by decide +kernel
theorem dX7_stones_17 : decode cX7_stones 17 = .ok (.iconst 1, 1) := by decide +kernel
theorem dX7_stones_18 : decode cX7_stones 18 = .ok (.if_icmp .ne 6, 3) := by decide +kernel
theorem dX7_stones_21 : decode cX7_stones 21 = .ok (.iinc 1 1, 3) := by decide +kernel
theorem dX7_stones_24 : decode cX7_stones 24 = .ok (.iinc 2 1, 3) := by decide +kernel
theorem dX7_stones_27 : decode cX7_stones 27 = .ok (.goto (-23), 3) := by decide +kernel
theorem dX7_stones_30 : decode cX7_stones 30 = .ok (.iload_n 1, 1) := by decide +kernel
theorem dX7_stones_31 : decode cX7_stones 31 = .ok (.ireturn, 1) := by decide +kernel
theorem dX7_sum_0 : decode cX7_sum 0 = .ok (.iload_n 1, 1) := by decide +kernel
theorem dX7_sum_1 : decode cX7_sum 1 = .ok (.ifCond .ne 11, 3) := by decide +kernel
theorem dX7_sum_4 : decode cX7_sum 4 = .ok (.aload_n 0, 1) := by decide +kernel
theorem dX7_sum_5 : decode cX7_sum 5 = .ok (.invokevirtual 60, 3) := by decide +kernel
theorem dX7_sum_8 : decode cX7_sum 8 = .ok (.invokestatic 63, 3) := by decide +kernel
theorem dX7_sum_11 : decode cX7_sum 11 = .ok (.ireturn, 1) := by decide +kernel
theorem dX7_sum_12 : decode cX7_sum 12 = .ok (.iload_n 1, 1) := by decide +kernel
theorem dX7_sum_13 : decode cX7_sum 13 = .ok (.iconst 3, 1) := by decide +kernel
theorem dX7_sum_14 : decode cX7_sum 14 = .ok (.if_icmp .ne 8, 3) := by decide +kernel
theorem dX7_sum_17 : decode cX7_sum 17 = .ok (.aload_n 0, 1) := by decide +kernel
theorem dX7_sum_18 : decode cX7_sum 18 = .ok (.getfield 39, 3) := by decide +kernel
theorem dX7_sum_21 : decode cX7_sum 21 = .ok (.ireturn, 1) := by decide +kernel
theorem dX7_sum_22 : decode cX7_sum 22 = .ok (.iconst 0, 1) := by decide +kernel
theorem dX7_sum_23 : decode cX7_sum 23 = .ok (.istore_n 2, 1) := by decide +kernel
theorem dX7_sum_24 : decode cX7_sum 24 = .ok (.iconst 0, 1) := by decide +kernel
theorem dX7_sum_25 : decode cX7_sum 25 = .ok (.istore_n 3, 1) := by decide +kernel
theorem dX7_sum_26 : decode cX7_sum 26 = .ok (.iload_n 3, 1) := by decide +kernel
theorem dX7_sum_27 : decode cX7_sum 27 = .ok (.aload_n 0, 1) := by decide +kernel
theorem dX7_sum_28 : decode cX7_sum 28 = .ok (.getfield 28, 3) := by decide +kernel
theorem dX7_sum_31 : decode cX7_sum 31 = .ok (.if_icmp .ge 38, 3) := by decide +kernel
theorem dX7_sum_34 : decode cX7_sum 34 = .ok (.iload_n 2, 1) := by decide +kernel
theorem dX7_sum_35 : decode cX7_sum 35 = .ok (.iload_n 1, 1) := by decide +kernel
theorem dX7_sum_36 : decode cX7_sum 36 = .ok (.iconst 1, 1) := by decide +kernel
theorem dX7_sum_37 : decode cX7_sum 37 = .ok (.if_icmp .ne 15, 3) := by decide +kernel
theorem dX7_sum_40 : decode cX7_sum 40 = .ok (.aload_n 0, 1) := by decide +kernel
theorem dX7_sum_41 : decode cX7_sum 41 = .ok (.getfield 11, 3) := by decide +kernel
theorem dX7_sum_44 : decode cX7_sum 44 = .ok (.iload_n 3, 1) := by decide +kernel
theorem dX7_sum_45 : decode cX7_sum 45 = .ok (.aaload, 1) := by decide +kernel
theorem dX7_sum_46 : decode cX7_sum 46 = .ok (.getfield 69, 3) := by decide +kernel
theorem dX7_sum_49 : decode cX7_sum 49 = .ok (.goto 12, 3) := by decide +kernel
theorem dX7_sum_52 : decode cX7_sum 52 = .ok (.aload_n 0, 1) := by decide +kernel
theorem dX7_sum_53 : decode cX7_sum 53 = .ok (.getfield 11, 3) := by decide +kernel
theorem dX7_sum_56 : decode cX7_sum 56 = .ok (.iload_n 3, 1) := by decide +kernel
theorem dX7_sum_57 : decode cX7_sum 57 = .ok (.aaload, 1) := by decide +kernel
theorem dX7_sum_58 : decode cX7_sum 58 = .ok (.getfield 72, 3) := by decide +kernel
theorem dX7_sum_61 : decode cX7_sum 61 = .ok (.iadd, 1) := by decide +kernel
theorem dX7_sum_62 : decode cX7_sum 62 = .ok (.istore_n 2, 1) := by decide +kernel
theorem dX7_sum_63 : decode cX7_sum 63 = .ok (.iinc 3 1, 3) := by decide +kernel
theorem dX7_sum_66 : decode cX7_sum 66 = .ok (.goto (-40), 3) := by decide +kernel
theorem dX7_sum_69 : decode cX7_sum 69 = .ok (.iload_n 2, 1) := by decide +kernel
theorem dX7_sum_70 : decode cX7_sum 70 = .ok (.ireturn, 1) := by decide +kernel
theorem dX7_pave_0 : decode cX7_pave 0 = .ok (.aload_n 1, 1) := by decide +kernel
theorem dX7_pave_1 : decode cX7_pave 1 = .ok (.iconst 0, 1) := by decide +kernel
theorem dX7_pave_2 : decode cX7_pave 2 = .ok (.aload_n 0, 1) := by decide +kernel
theorem dX7_pave_3 : decode cX7_pave 3 = .ok (.getfield 17, 3) := by decide +kernel
theorem dX7_pave_6 : decode cX7_pave 6 = .ok (.iconst 0, 1) := by decide +kernel
theorem dX7_pave_7 : decode cX7_pave 7 = .ok (.sipush 144, 3) := by decide +kernel
theorem dX7_pave_10 : decode cX7_pave 10 = .ok (.invokestatic 22, 3) := by decide +kernel
theorem dX7_pave_13 : decode cX7_pave 13 = .ok (.iconst 0, 1) := by decide +kernel
theorem dX7_pave_14 : decode cX7_pave 14 = .ok (.istore_n 2, 1) := by decide +kernel
theorem dX7_pave_15 : decode cX7_pave 15 = .ok (.iload_n 2, 1) := by decide +kernel
theorem dX7_pave_16 : decode cX7_pave 16 = .ok (.aload_n 0, 1) := by decide +kernel
theorem dX7_pave_17 : decode cX7_pave 17 = .ok (.getfield 28, 3) := by decide +kernel
theorem dX7_pave_20 : decode cX7_pave 20 = .ok (.if_icmp .ge 49, 3) := by decide +kernel
theorem dX7_pave_23 : decode cX7_pave 23 = .ok (.aload_n 0, 1) := by decide +kernel
theorem dX7_pave_24 : decode cX7_pave 24 = .ok (.getfield 11, 3) := by decide +kernel
theorem dX7_pave_27 : decode cX7_pave 27 = .ok (.iload_n 2, 1) := by decide +kernel
theorem dX7_pave_28 : decode cX7_pave 28 = .ok (.aaload, 1) := by decide +kernel
theorem dX7_pave_29 : decode cX7_pave 29 = .ok (.getfield 52, 3) := by decide +kernel
theorem dX7_pave_32 : decode cX7_pave 32 = .ok (.ifCond .eq 31, 3) := by decide +kernel
theorem dX7_pave_35 : decode cX7_pave 35 = .ok (.aload_n 0, 1) := by decide +kernel
theorem dX7_pave_36 : decode cX7_pave 36 = .ok (.getfield 17, 3) := by decide +kernel
theorem dX7_pave_39 : decode cX7_pave 39 = .ok (.aload_n 0, 1) := by decide +kernel
theorem dX7_pave_40 : decode cX7_pave 40 = .ok (.getfield 11, 3) := by decide +kernel
theorem dX7_pave_43 : decode cX7_pave 43 = .ok (.iload_n 2, 1) := by decide +kernel
theorem dX7_pave_44 : decode cX7_pave 44 = .ok (.aaload, 1) := by decide +kernel
theorem dX7_pave_45 : decode cX7_pave 45 = .ok (.invokevirtual 56, 3) := by decide +kernel
theorem dX7_pave_48 : decode cX7_pave 48 = .ok (.iaload, 1) := by decide +kernel
theorem dX7_pave_49 : decode cX7_pave 49 = .ok (.iconst 1, 1) := by decide +kernel
theorem dX7_pave_50 : decode cX7_pave 50 = .ok (.if_icmp .ne 13, 3) := by decide +kernel
theorem dX7_pave_53 : decode cX7_pave 53 = .ok (.aload_n 0, 1) := by decide +kernel
theorem dX7_pave_54 : decode cX7_pave 54 = .ok (.getfield 11, 3) := by decide +kernel
theorem dX7_pave_57 : decode cX7_pave 57 = .ok (.iload_n 2, 1) := by decide +kernel
theorem dX7_pave_58 : decode cX7_pave 58 = .ok (.aaload, 1) := by decide +kernel
theorem dX7_pave_59 : decode cX7_pave 59 = .ok (.iconst 0, 1) := by decide +kernel
theorem dX7_pave_60 : decode cX7_pave 60 = .ok (.putfield 52, 3) := by decide +kernel
theorem dX7_pave_63 : decode cX7_pave 63 = .ok (.iinc 2 1, 3) := by decide +kernel
theorem dX7_pave_66 : decode cX7_pave 66 = .ok (.goto (-51), 3) := by decide +kernel
theorem dX7_pave_69 : decode cX7_pave 69 = .ok (.return_, 1) := by decide +kernel
theorem dX7_beginWays_0 : decode cX7_beginWays 0 = .ok (.iconst 0, 1) := by decide +kernel
theorem dX7_beginWays_1 : decode cX7_beginWays 1 = .ok (.istore_n 1, 1) := by decide +kernel
theorem dX7_beginWays_2 : decode cX7_beginWays 2 = .ok (.iload_n 1, 1) := by decide +kernel
theorem dX7_beginWays_3 : decode cX7_beginWays 3 = .ok (.aload_n 0, 1) := by decide +kernel
theorem dX7_beginWays_4 : decode cX7_beginWays 4 = .ok (.getfield 28, 3) := by decide +kernel
theorem dX7_beginWays_7 : decode cX7_beginWays 7 = .ok (.if_icmp .ge 18, 3) := by decide +kernel
theorem dX7_beginWays_10 : decode cX7_beginWays 10 = .ok (.aload_n 0, 1) := by decide +kernel
theorem dX7_beginWays_11 : decode cX7_beginWays 11 = .ok (.getfield 11, 3) := by decide +kernel
theorem dX7_beginWays_14 : decode cX7_beginWays 14 = .ok (.iload_n 1, 1) := by decide +kernel
theorem dX7_beginWays_15 : decode cX7_beginWays 15 = .ok (.aaload, 1) := by decide +kernel
theorem dX7_beginWays_16 : decode cX7_beginWays 16 = .ok (.invokevirtual 75, 3) := by decide +kernel
theorem dX7_beginWays_19 : decode cX7_beginWays 19 = .ok (.iinc 1 1, 3) := by decide +kernel
theorem dX7_beginWays_22 : decode cX7_beginWays 22 = .ok (.goto (-20), 3) := by decide +kernel
theorem dX7_beginWays_25 : decode cX7_beginWays 25 = .ok (.return_, 1) := by decide +kernel
theorem dX7_drawOf1000_0 : decode cX7_drawOf1000 0 = .ok (.aload_n 0, 1) := by decide +kernel
theorem dX7_drawOf1000_1 : decode cX7_drawOf1000 1 = .ok (.ldc 78, 2) := by decide +kernel
theorem dX7_drawOf1000_3 : decode cX7_drawOf1000 3 = .ok (.aload_n 0, 1) := by decide +kernel
theorem dX7_drawOf1000_4 : decode cX7_drawOf1000 4 = .ok (.getfield 42, 3) := by decide +kernel
theorem dX7_drawOf1000_7 : decode cX7_drawOf1000 7 = .ok (.imul, 1) := by decide +kernel
theorem dX7_drawOf1000_8 : decode cX7_drawOf1000 8 = .ok (.ldc 79, 2) := by decide +kernel
theorem dX7_drawOf1000_10 : decode cX7_drawOf1000 10 = .ok (.iadd, 1) := by decide +kernel
theorem dX7_drawOf1000_11 : decode cX7_drawOf1000 11 = .ok (.putfield 42, 3) := by decide +kernel
theorem dX7_drawOf1000_14 : decode cX7_drawOf1000 14 = .ok (.aload_n 0, 1) := by decide +kernel
theorem dX7_drawOf1000_15 : decode cX7_drawOf1000 15 = .ok (.getfield 42, 3) := by decide +kernel
theorem dX7_drawOf1000_18 : decode cX7_drawOf1000 18 = .ok (.bipush 8, 2) := by decide +kernel
theorem dX7_drawOf1000_20 : decode cX7_drawOf1000 20 = .ok (.iushr, 1) := by decide +kernel
theorem dX7_drawOf1000_21 : decode cX7_drawOf1000 21 = .ok (.sipush 1000, 3) := by decide +kernel
theorem dX7_drawOf1000_24 : decode cX7_drawOf1000 24 = .ok (.irem, 1) := by decide +kernel
theorem dX7_drawOf1000_25 : decode cX7_drawOf1000 25 = .ok (.ireturn, 1) := by decide +kernel
theorem dX8_init_0 : decode cX8_init 0 = .ok (.aload_n 0, 1) := by decide +kernel
theorem dX8_init_1 : decode cX8_init 1 = .ok (.invokespecial 3, 3) := by decide +kernel
theorem dX8_init_4 : decode cX8_init 4 = .ok (.aload_n 0, 1) := by decide +kernel
theorem dX8_init_5 : decode cX8_init 5 = .ok (.new 9, 3) := by decide +kernel
theorem dX8_init_8 : decode cX8_init 8 = .ok (.dup, 1) := by decide +kernel
theorem dX8_init_9 : decode cX8_init 9 = .ok (.invokespecial 11, 3) := by decide +kernel
theorem dX8_init_12 : decode cX8_init 12 = .ok (.putfield 12, 3) := by decide +kernel
theorem dX8_init_15 : decode cX8_init 15 = .ok (.aload_n 0, 1) := by decide +kernel
theorem dX8_init_16 : decode cX8_init 16 = .ok (.iconst 4, 1) := by decide +kernel
theorem dX8_init_17 : decode cX8_init 17 = .ok (.newarray .int, 2) := by decide +kernel
theorem dX8_init_19 : decode cX8_init 19 = .ok (.putfield 18, 3) := by decide +kernel
theorem dX8_init_22 : decode cX8_init 22 = .ok (.aload_n 0, 1) := by decide +kernel
theorem dX8_init_23 : decode cX8_init 23 = .ok (.sipush 144, 3) := by decide +kernel
theorem dX8_init_26 : decode cX8_init 26 = .ok (.newarray .int, 2) := by decide +kernel
theorem dX8_init_28 : decode cX8_init 28 = .ok (.putfield 22, 3) := by decide +kernel
theorem dX8_init_31 : decode cX8_init 31 = .ok (.aload_n 0, 1) := by decide +kernel
theorem dX8_init_32 : decode cX8_init 32 = .ok (.bipush 16, 2) := by decide +kernel
theorem dX8_init_34 : decode cX8_init 34 = .ok (.newarray .int, 2) := by decide +kernel
theorem dX8_init_36 : decode cX8_init 36 = .ok (.putfield 25, 3) := by decide +kernel
theorem dX8_init_39 : decode cX8_init 39 = .ok (.aload_n 0, 1) := by decide +kernel
theorem dX8_init_40 : decode cX8_init 40 = .ok (.sipush 192, 3) := by decide +kernel
theorem dX8_init_43 : decode cX8_init 43 = .ok (.newarray .int, 2) := by decide +kernel
theorem dX8_init_45 : decode cX8_init 45 = .ok (.putfield 28, 3) := by decide +kernel
theorem dX8_init_48 : decode cX8_init 48 = .ok (.aload_n 0, 1) := by decide +kernel
theorem dX8_init_49 : decode cX8_init 49 = .ok (.sipush 192, 3) := by decide +kernel
theorem dX8_init_52 : decode cX8_init 52 = .ok (.newarray .int, 2) := by decide +kernel
theorem dX8_init_54 : decode cX8_init 54 = .ok (.putfield 31, 3) := by decide +kernel
theorem dX8_init_57 : decode cX8_init 57 = .ok (.aload_n 0, 1) := by decide +kernel
theorem dX8_init_58 : decode cX8_init 58 = .ok (.bipush 16, 2) := by decide +kernel
theorem dX8_init_60 : decode cX8_init 60 = .ok (.newarray .int, 2) := by decide +kernel
theorem dX8_init_62 : decode cX8_init 62 = .ok (.putfield 34, 3) := by decide +kernel
theorem dX8_init_65 : decode cX8_init 65 = .ok (.aload_n 0, 1) := by decide +kernel
theorem dX8_init_66 : decode cX8_init 66 = .ok (.bipush 16, 2) := by decide +kernel
theorem dX8_init_68 : decode cX8_init 68 = .ok (.newarray .int, 2) := by decide +kernel
theorem dX8_init_70 : decode cX8_init 70 = .ok (.putfield 37, 3) := by decide +kernel
theorem dX8_init_73 : decode cX8_init 73 = .ok (.return_, 1) := by decide +kernel
theorem dX8_readStones_0 : decode cX8_readStones 0 = .ok (.aload_n 0, 1) := by decide +kernel
theorem dX8_readStones_1 : decode cX8_readStones 1 = .ok (.getfield 22, 3) := by decide +kernel
theorem dX8_readStones_4 : decode cX8_readStones 4 = .ok (.iconst 0, 1) := by decide +kernel
theorem dX8_readStones_5 : decode cX8_readStones 5 = .ok (.invokestatic 40, 3) := by decide +kernel
theorem dX8_readStones_8 : decode cX8_readStones 8 = .ok (.iconst 0, 1) := by decide +kernel
theorem dX8_readStones_9 : decode cX8_readStones 9 = .ok (.istore_n 2, 1) := by decide +kernel
theorem dX8_readStones_10 : decode cX8_readStones 10 = .ok (.iload_n 2, 1) := by decide +kernel
theorem dX8_readStones_11 : decode cX8_readStones 11 = .ok (.bipush 16, 2) := by decide +kernel
theorem dX8_readStones_13 : decode cX8_readStones 13 = .ok (.if_icmp .gt 70, 3) := by decide +kernel
theorem dX8_readStones_16 : decode cX8_readStones 16 = .ok (.aload_n 1, 1) := by decide +kernel
theorem dX8_readStones_17 : decode cX8_readStones 17 = .ok (.invokevirtual 46, 3) := by decide +kernel
theorem dX8_readStones_20 : decode cX8_readStones 20 = .ok (.ifCond .eq 63, 3) := by decide +kernel
theorem dX8_readStones_23 : decode cX8_readStones 23 = .ok (.aload_n 1, 1) := by decide +kernel
theorem dX8_readStones_24 : decode cX8_readStones 24 = .ok (.invokevirtual 46, 3) := by decide +kernel
theorem dX8_readStones_27 : decode cX8_readStones 27 = .ok (.invokestatic 52, 3) := by decide +kernel
theorem dX8_readStones_30 : decode cX8_readStones 30 = .ok (.istore_n 3, 1) := by decide +kernel
theorem dX8_readStones_31 : decode cX8_readStones 31 = .ok (.aload_n 1, 1) := by decide +kernel
theorem dX8_readStones_32 : decode cX8_readStones 32 = .ok (.iload_n 3, 1) := by decide +kernel
theorem dX8_readStones_33 : decode cX8_readStones 33 = .ok (.iconst (-1), 1) := by decide +kernel
theorem dX8_readStones_34 : decode cX8_readStones 34 = .ok (.if_icmp .eq 7, 3) := by decide +kernel
theorem dX8_readStones_37 : decode cX8_readStones 37 = .ok (.iconst 1, 1) := by decide +kernel
theorem dX8_readStones_38 : decode cX8_readStones 38 = .ok (.goto 4, 3) := by decide +kernel
theorem dX8_readStones_41 : decode cX8_readStones 41 = .ok (.iconst 0, 1) := by decide +kernel
theorem dX8_readStones_42 : decode cX8_readStones 42 = .ok (.iload_n 2, 1) := by decide +kernel
theorem dX8_readStones_43 : decode cX8_readStones 43 = .ok (.bipush 16, 2) := by decide +kernel
theorem dX8_readStones_45 : decode cX8_readStones 45 = .ok (.invokevirtual 56, 3) := by decide +kernel
theorem dX8_readStones_48 : decode cX8_readStones 48 = .ok (.ifCond .ne 5, 3) := by decide +kernel
theorem dX8_readStones_51 : decode cX8_readStones 51 = .ok (.iconst (-1), 1) := by decide +kernel
theorem dX8_readStones_52 : decode cX8_readStones 52 = .ok (.ireturn, 1) := by decide +kernel
theorem dX8_readStones_53 : decode cX8_readStones 53 = .ok (.aload_n 1, 1) := by decide +kernel
theorem dX8_readStones_54 : decode cX8_readStones 54 = .ok (.invokevirtual 60, 3) := by decide +kernel
theorem dX8_readStones_57 : decode cX8_readStones 57 = .ok (.aload_n 0, 1) := by decide +kernel
theorem dX8_readStones_58 : decode cX8_readStones 58 = .ok (.aload_n 1, 1) := by decide +kernel
theorem dX8_readStones_59 : decode cX8_readStones 59 = .ok (.iload_n 3, 1) := by decide +kernel
theorem dX8_readStones_60 : decode cX8_readStones 60 = .ok (.invokevirtual 63, 3) := by decide +kernel
theorem dX8_readStones_63 : decode cX8_readStones 63 = .ok (.ifCond .eq 12, 3) := by decide +kernel
theorem dX8_readStones_66 : decode cX8_readStones 66 = .ok (.aload_n 1, 1) := by decide +kernel
theorem dX8_readStones_67 : decode cX8_readStones 67 = .ok (.bipush 59, 2) := by decide +kernel
theorem dX8_readStones_69 : decode cX8_readStones 69 = .ok (.invokevirtual 67, 3) := by decide +kernel
theorem dX8_readStones_72 : decode cX8_readStones 72 = .ok (.ifCond .ne 5, 3) := by decide +kernel
theorem dX8_readStones_75 : decode cX8_readStones 75 = .ok (.iconst (-1), 1) := by decide +kernel
theorem dX8_readStones_76 : decode cX8_readStones 76 = .ok (.ireturn, 1) := by decide +kernel
theorem dX8_readStones_77 : decode cX8_readStones 77 = .ok (.iinc 2 1, 3) := by decide +kernel
theorem dX8_readStones_80 : decode cX8_readStones 80 = .ok (.goto (-70), 3) := by decide +kernel
theorem dX8_readStones_83 : decode cX8_readStones 83 = .ok (.iload_n 2, 1) := by decide +kernel
theorem dX8_readStones_84 : decode cX8_readStones 84 = .ok (.ireturn, 1) := by decide +kernel
theorem dX8_readWays_0 : decode cX8_readWays 0 = .ok (.aload_n 0, 1) := by decide +kernel
theorem dX8_readWays_1 : decode cX8_readWays 1 = .ok (.getfield 25, 3) := by decide +kernel
theorem dX8_readWays_4 : decode cX8_readWays 4 = .ok (.iconst 0, 1) := by decide +kernel
theorem dX8_readWays_5 : decode cX8_readWays 5 = .ok (.invokestatic 40, 3) := by decide +kernel
theorem dX8_readWays_8 : decode cX8_readWays 8 = .ok (.iconst 0, 1) := by decide +kernel
theorem dX8_readWays_9 : decode cX8_readWays 9 = .ok (.istore_n 3, 1) := by decide +kernel
theorem dX8_readWays_10 : decode cX8_readWays 10 = .ok (.iload_n 3, 1) := by decide +kernel
theorem dX8_readWays_11 : decode cX8_readWays 11 = .ok (.bipush 16, 2) := by decide +kernel
theorem dX8_readWays_13 : decode cX8_readWays 13 = .ok (.if_icmp .gt 75, 3) := by decide +kernel
theorem dX8_readWays_16 : decode cX8_readWays 16 = .ok (.aload_n 1, 1) := by decide +kernel
theorem dX8_readWays_17 : decode cX8_readWays 17 = .ok (.invokevirtual 46, 3) := by decide +kernel
theorem dX8_readWays_20 : decode cX8_readWays 20 = .ok (.ifCond .eq 68, 3) := by decide +kernel
theorem dX8_readWays_23 : decode cX8_readWays 23 = .ok (.aload_n 1, 1) := by decide +kernel
theorem dX8_readWays_24 : decode cX8_readWays 24 = .ok (.aload_n 1, 1) := by decide +kernel
theorem dX8_readWays_25 : decode cX8_readWays 25 = .ok (.invokevirtual 46, 3) := by decide +kernel
theorem dX8_readWays_28 : decode cX8_readWays 28 = .ok (.sipush 149, 3) := by decide +kernel
theorem dX8_readWays_31 : decode cX8_readWays 31 = .ok (.if_icmp .ne 7, 3) := by decide +kernel
theorem dX8_readWays_34 : decode cX8_readWays 34 = .ok (.iconst 1, 1) := by decide +kernel
theorem dX8_readWays_35 : decode cX8_readWays 35 = .ok (.goto 4, 3) := by decide +kernel
theorem dX8_readWays_38 : decode cX8_readWays 38 = .ok (.iconst 0, 1) := by decide +kernel
theorem dX8_readWays_39 : decode cX8_readWays 39 = .ok (.iload_n 3, 1) := by decide +kernel
theorem dX8_readWays_40 : decode cX8_readWays 40 = .ok (.bipush 16, 2) := by decide +kernel
theorem dX8_readWays_42 : decode cX8_readWays 42 = .ok (.invokevirtual 56, 3) := by decide +kernel
theorem dX8_readWays_45 : decode cX8_readWays 45 = .ok (.ifCond .ne 5, 3) := by decide +kernel
theorem dX8_readWays_48 : decode cX8_readWays 48 = .ok (.iconst (-1), 1) := by decide +kernel
theorem dX8_readWays_49 : decode cX8_readWays 49 = .ok (.ireturn, 1) := by decide +kernel
theorem dX8_readWays_50 : decode cX8_readWays 50 = .ok (.aload_n 1, 1) := by decide +kernel
theorem dX8_readWays_51 : decode cX8_readWays 51 = .ok (.invokevirtual 60, 3) := by decide +kernel
theorem dX8_readWays_54 : decode cX8_readWays 54 = .ok (.aload_n 1, 1) := by decide +kernel
theorem dX8_readWays_55 : decode cX8_readWays 55 = .ok (.iconst 0, 1) := by decide +kernel
theorem dX8_readWays_56 : decode cX8_readWays 56 = .ok (.iload_n 2, 1) := by decide +kernel
theorem dX8_readWays_57 : decode cX8_readWays 57 = .ok (.iconst 1, 1) := by decide +kernel
theorem dX8_readWays_58 : decode cX8_readWays 58 = .ok (.isub, 1) := by decide +kernel
theorem dX8_readWays_59 : decode cX8_readWays 59 = .ok (.invokevirtual 71, 3) := by decide +kernel
theorem dX8_readWays_62 : decode cX8_readWays 62 = .ok (.istore 4, 2) := by decide +kernel
theorem dX8_readWays_64 : decode cX8_readWays 64 = .ok (.iload 4, 2) := by decide +kernel
theorem dX8_readWays_66 : decode cX8_readWays 66 = .ok (.iconst (-1), 1) := by decide +kernel
theorem dX8_readWays_67 : decode cX8_readWays 67 = .ok (.if_icmp .eq 13, 3) := by decide +kernel
theorem dX8_readWays_70 : decode cX8_readWays 70 = .ok (.aload_n 0, 1) := by decide +kernel
theorem dX8_readWays_71 : decode cX8_readWays 71 = .ok (.aload_n 1, 1) := by decide +kernel
theorem dX8_readWays_72 : decode cX8_readWays 72 = .ok (.iload 4, 2) := by decide +kernel
theorem dX8_readWays_74 : decode cX8_readWays 74 = .ok (.invokevirtual 75, 3) := by decide +kernel
theorem dX8_readWays_77 : decode cX8_readWays 77 = .ok (.ifCond .ne 5, 3) := by decide +kernel
theorem dX8_readWays_80 : decode cX8_readWays 80 = .ok (.iconst (-1), 1) := by decide +kernel
theorem dX8_readWays_81 : decode cX8_readWays 81 = .ok (.ireturn, 1) := by decide +kernel
theorem dX8_readWays_82 : decode cX8_readWays 82 = .ok (.iinc 3 1, 3) := by decide +kernel
theorem dX8_readWays_85 : decode cX8_readWays 85 = .ok (.goto (-75), 3) := by decide +kernel
theorem dX8_readWays_88 : decode cX8_readWays 88 = .ok (.iload_n 3, 1) := by decide +kernel
theorem dX8_readWays_89 : decode cX8_readWays 89 = .ok (.ireturn, 1) := by decide +kernel
theorem dX8_readWatch_0 : decode cX8_readWatch 0 = .ok (.iconst 0, 1) := by decide +kernel
theorem dX8_readWatch_1 : decode cX8_readWatch 1 = .ok (.istore_n 2, 1) := by decide +kernel
theorem dX8_readWatch_2 : decode cX8_readWatch 2 = .ok (.iload_n 2, 1) := by decide +kernel
theorem dX8_readWatch_3 : decode cX8_readWatch 3 = .ok (.bipush 16, 2) := by decide +kernel
theorem dX8_readWatch_5 : decode cX8_readWatch 5 = .ok (.if_icmp .gt 105, 3) := by decide +kernel
theorem dX8_readWatch_8 : decode cX8_readWatch 8 = .ok (.aload_n 1, 1) := by decide +kernel
theorem dX8_readWatch_9 : decode cX8_readWatch 9 = .ok (.invokevirtual 46, 3) := by decide +kernel
theorem dX8_readWatch_12 : decode cX8_readWatch 12 = .ok (.ifCond .eq 98, 3) := by decide +kernel
theorem dX8_readWatch_15 : decode cX8_readWatch 15 = .ok (.aload_n 1, 1) := by decide +kernel
theorem dX8_readWatch_16 : decode cX8_readWatch 16 = .ok (.aload_n 1, 1) := by decide +kernel
theorem dX8_readWatch_17 : decode cX8_readWatch 17 = .ok (.invokevirtual 46, 3) := by decide +kernel
theorem dX8_readWatch_20 : decode cX8_readWatch 20 = .ok (.sipush 155, 3) := by decide +kernel
theorem dX8_readWatch_23 : decode cX8_readWatch 23 = .ok (.if_icmp .ne 7, 3) := by decide +kernel
theorem dX8_readWatch_26 : decode cX8_readWatch 26 = .ok (.iconst 1, 1) := by decide +kernel
theorem dX8_readWatch_27 : decode cX8_readWatch 27 = .ok (.goto 4, 3) := by decide +kernel
theorem dX8_readWatch_30 : decode cX8_readWatch 30 = .ok (.iconst 0, 1) := by decide +kernel
theorem dX8_readWatch_31 : decode cX8_readWatch 31 = .ok (.iload_n 2, 1) := by decide +kernel
theorem dX8_readWatch_32 : decode cX8_readWatch 32 = .ok (.bipush 16, 2) := by decide +kernel
theorem dX8_readWatch_34 : decode cX8_readWatch 34 = .ok (.invokevirtual 56, 3) := by decide +kernel
theorem dX8_readWatch_37 : decode cX8_readWatch 37 = .ok (.ifCond .ne 5, 3) := by decide +kernel
theorem dX8_readWatch_40 : decode cX8_readWatch 40 = .ok (.iconst (-1), 1) := by decide +kernel
theorem dX8_readWatch_41 : decode cX8_readWatch 41 = .ok (.ireturn, 1) := by decide +kernel
theorem dX8_readWatch_42 : decode cX8_readWatch 42 = .ok (.aload_n 1, 1) := by decide +kernel
theorem dX8_readWatch_43 : decode cX8_readWatch 43 = .ok (.invokevirtual 60, 3) := by decide +kernel
theorem dX8_readWatch_46 : decode cX8_readWatch 46 = .ok (.aload_n 0, 1) := by decide +kernel
theorem dX8_readWatch_47 : decode cX8_readWatch 47 = .ok (.getfield 34, 3) := by decide +kernel
theorem dX8_readWatch_50 : decode cX8_readWatch 50 = .ok (.iload_n 2, 1) := by decide +kernel
theorem dX8_readWatch_51 : decode cX8_readWatch 51 = .ok (.aload_n 1, 1) := by decide +kernel
theorem dX8_readWatch_52 : decode cX8_readWatch 52 = .ok (.iconst 0, 1) := by decide +kernel
theorem dX8_readWatch_53 : decode cX8_readWatch 53 = .ok (.sipush 999, 3) := by decide +kernel
theorem dX8_readWatch_56 : decode cX8_readWatch 56 = .ok (.invokevirtual 71, 3) := by decide +kernel
theorem dX8_readWatch_59 : decode cX8_readWatch 59 = .ok (.iastore, 1) := by decide +kernel
theorem dX8_readWatch_60 : decode cX8_readWatch 60 = .ok (.aload_n 0, 1) := by decide +kernel
theorem dX8_readWatch_61 : decode cX8_readWatch 61 = .ok (.getfield 34, 3) := by decide +kernel
theorem dX8_readWatch_64 : decode cX8_readWatch 64 = .ok (.iload_n 2, 1) := by decide +kernel
theorem dX8_readWatch_65 : decode cX8_readWatch 65 = .ok (.iaload, 1) := by decide +kernel
theorem dX8_readWatch_66 : decode cX8_readWatch 66 = .ok (.iconst (-1), 1) := by decide +kernel
theorem dX8_readWatch_67 : decode cX8_readWatch 67 = .ok (.if_icmp .ne 5, 3) := by decide +kernel
theorem dX8_readWatch_70 : decode cX8_readWatch 70 = .ok (.iconst (-1), 1) := by decide +kernel
theorem dX8_readWatch_71 : decode cX8_readWatch 71 = .ok (.ireturn, 1) := by decide +kernel
theorem dX8_readWatch_72 : decode cX8_readWatch 72 = .ok (.aload_n 0, 1) := by decide +kernel
theorem dX8_readWatch_73 : decode cX8_readWatch 73 = .ok (.getfield 37, 3) := by decide +kernel
theorem dX8_readWatch_76 : decode cX8_readWatch 76 = .ok (.iload_n 2, 1) := by decide +kernel
theorem dX8_readWatch_77 : decode cX8_readWatch 77 = .ok (.aload_n 0, 1) := by decide +kernel
theorem dX8_readWatch_78 : decode cX8_readWatch 78 = .ok (.aload_n 1, 1) := by decide +kernel
theorem dX8_readWatch_79 : decode cX8_readWatch 79 = .ok (.invokevirtual 78, 3) := by decide +kernel
theorem dX8_readWatch_82 : decode cX8_readWatch 82 = .ok (.iastore, 1) := by decide +kernel
theorem dX8_readWatch_83 : decode cX8_readWatch 83 = .ok (.aload_n 0, 1) := by decide +kernel
theorem dX8_readWatch_84 : decode cX8_readWatch 84 = .ok (.getfield 37, 3) := by decide +kernel
theorem dX8_readWatch_87 : decode cX8_readWatch 87 = .ok (.iload_n 2, 1) := by decide +kernel
theorem dX8_readWatch_88 : decode cX8_readWatch 88 = .ok (.iaload, 1) := by decide +kernel
theorem dX8_readWatch_89 : decode cX8_readWatch 89 = .ok (.iconst (-1), 1) := by decide +kernel
theorem dX8_readWatch_90 : decode cX8_readWatch 90 = .ok (.if_icmp .eq 12, 3) := by decide +kernel
theorem dX8_readWatch_93 : decode cX8_readWatch 93 = .ok (.aload_n 1, 1) := by decide +kernel
theorem dX8_readWatch_94 : decode cX8_readWatch 94 = .ok (.bipush 59, 2) := by decide +kernel
theorem dX8_readWatch_96 : decode cX8_readWatch 96 = .ok (.invokevirtual 67, 3) := by decide +kernel
theorem dX8_readWatch_99 : decode cX8_readWatch 99 = .ok (.ifCond .ne 5, 3) := by decide +kernel
theorem dX8_readWatch_102 : decode cX8_readWatch 102 = .ok (.iconst (-1), 1) := by decide +kernel
theorem dX8_readWatch_103 : decode cX8_readWatch 103 = .ok (.ireturn, 1) := by decide +kernel
theorem dX8_readWatch_104 : decode cX8_readWatch 104 = .ok (.iinc 2 1, 3) := by decide +kernel
theorem dX8_readWatch_107 : decode cX8_readWatch 107 = .ok (.goto (-105), 3) := by decide +kernel
theorem dX8_readWatch_110 : decode cX8_readWatch 110 = .ok (.iload_n 2, 1) := by decide +kernel
theorem dX8_readWatch_111 : decode cX8_readWatch 111 = .ok (.ireturn, 1) := by decide +kernel
theorem dX8_watchAt_0 : decode cX8_watchAt 0 = .ok (.aload_n 0, 1) := by decide +kernel
theorem dX8_watchAt_1 : decode cX8_watchAt 1 = .ok (.getfield 18, 3) := by decide +kernel
theorem dX8_watchAt_4 : decode cX8_watchAt 4 = .ok (.iconst 3, 1) := by decide +kernel
theorem dX8_watchAt_5 : decode cX8_watchAt 5 = .ok (.iaload, 1) := by decide +kernel
theorem dX8_watchAt_6 : decode cX8_watchAt 6 = .ok (.iconst 1, 1) := by decide +kernel
theorem dX8_watchAt_7 : decode cX8_watchAt 7 = .ok (.isub, 1) := by decide +kernel
theorem dX8_watchAt_8 : decode cX8_watchAt 8 = .ok (.istore_n 2, 1) := by decide +kernel
theorem dX8_watchAt_9 : decode cX8_watchAt 9 = .ok (.iload_n 2, 1) := by decide +kernel
theorem dX8_watchAt_10 : decode cX8_watchAt 10 = .ok (.ifCond .lt 26, 3) := by decide +kernel
theorem dX8_watchAt_13 : decode cX8_watchAt 13 = .ok (.aload_n 0, 1) := by decide +kernel
theorem dX8_watchAt_14 : decode cX8_watchAt 14 = .ok (.getfield 34, 3) := by decide +kernel
theorem dX8_watchAt_17 : decode cX8_watchAt 17 = .ok (.iload_n 2, 1) := by decide +kernel
theorem dX8_watchAt_18 : decode cX8_watchAt 18 = .ok (.iaload, 1) := by decide +kernel
theorem dX8_watchAt_19 : decode cX8_watchAt 19 = .ok (.iload_n 1, 1) := by decide +kernel
theorem dX8_watchAt_20 : decode cX8_watchAt 20 = .ok (.if_icmp .gt 10, 3) := by decide +kernel
theorem dX8_watchAt_23 : decode cX8_watchAt 23 = .ok (.aload_n 0, 1) := by decide +kernel
theorem dX8_watchAt_24 : decode cX8_watchAt 24 = .ok (.getfield 37, 3) := by decide +kernel
theorem dX8_watchAt_27 : decode cX8_watchAt 27 = .ok (.iload_n 2, 1) := by decide +kernel
theorem dX8_watchAt_28 : decode cX8_watchAt 28 = .ok (.iaload, 1) := by decide +kernel
theorem dX8_watchAt_29 : decode cX8_watchAt 29 = .ok (.ireturn, 1) := by decide +kernel
theorem dX8_watchAt_30 : decode cX8_watchAt 30 = .ok (.iinc 2 (-1), 3) := by decide +kernel
theorem dX8_watchAt_33 : decode cX8_watchAt 33 = .ok (.goto (-24), 3) := by decide +kernel
theorem dX8_watchAt_36 : decode cX8_watchAt 36 = .ok (.iconst 0, 1) := by decide +kernel
theorem dX8_watchAt_37 : decode cX8_watchAt 37 = .ok (.ireturn, 1) := by decide +kernel
theorem dX8_nextWord_0 : decode cX8_nextWord 0 = .ok (.aload_n 2, 1) := by decide +kernel
theorem dX8_nextWord_1 : decode cX8_nextWord 1 = .ok (.getfield 82, 3) := by decide +kernel
theorem dX8_nextWord_4 : decode cX8_nextWord 4 = .ok (.aload_n 0, 1) := by decide +kernel
theorem dX8_nextWord_5 : decode cX8_nextWord 5 = .ok (.getfield 25, 3) := by decide +kernel
theorem dX8_nextWord_8 : decode cX8_nextWord 8 = .ok (.iload_n 1, 1) := by decide +kernel
theorem dX8_nextWord_9 : decode cX8_nextWord 9 = .ok (.iaload, 1) := by decide +kernel
theorem dX8_nextWord_10 : decode cX8_nextWord 10 = .ok (.if_icmp .lt 7, 3) := by decide +kernel
theorem dX8_nextWord_13 : decode cX8_nextWord 13 = .ok (.sipush 150, 3) := by decide +kernel
theorem dX8_nextWord_16 : decode cX8_nextWord 16 = .ok (.ireturn, 1) := by decide +kernel
theorem dX8_nextWord_17 : decode cX8_nextWord 17 = .ok (.bipush 12, 2) := by decide +kernel
theorem dX8_nextWord_19 : decode cX8_nextWord 19 = .ok (.iload_n 1, 1) := by decide +kernel
theorem dX8_nextWord_20 : decode cX8_nextWord 20 = .ok (.imul, 1) := by decide +kernel
theorem dX8_nextWord_21 : decode cX8_nextWord 21 = .ok (.aload_n 2, 1) := by decide +kernel
theorem dX8_nextWord_22 : decode cX8_nextWord 22 = .ok (.getfield 82, 3) := by decide +kernel
theorem dX8_nextWord_25 : decode cX8_nextWord 25 = .ok (.iadd, 1) := by decide +kernel
theorem dX8_nextWord_26 : decode cX8_nextWord 26 = .ok (.istore_n 3, 1) := by decide +kernel
theorem dX8_nextWord_27 : decode cX8_nextWord 27 = .ok (.aload_n 2, 1) := by decide +kernel
theorem dX8_nextWord_28 : decode cX8_nextWord 28 = .ok (.dup, 1) := by decide +kernel
theorem dX8_nextWord_29 : decode cX8_nextWord 29 = .ok (.getfield 88, 3) := by decide +kernel
theorem dX8_nextWord_32 : decode cX8_nextWord 32 = .ok (.iconst 1, 1) := by decide +kernel
theorem dX8_nextWord_33 : decode cX8_nextWord 33 = .ok (.iadd, 1) := by decide +kernel
theorem dX8_nextWord_34 : decode cX8_nextWord 34 = .ok (.putfield 88, 3) := by decide +kernel
theorem dX8_nextWord_37 : decode cX8_nextWord 37 = .ok (.aload_n 2, 1) := by decide +kernel
theorem dX8_nextWord_38 : decode cX8_nextWord 38 = .ok (.getfield 88, 3) := by decide +kernel
theorem dX8_nextWord_41 : decode cX8_nextWord 41 = .ok (.aload_n 0, 1) := by decide +kernel
theorem dX8_nextWord_42 : decode cX8_nextWord 42 = .ok (.getfield 31, 3) := by decide +kernel
theorem dX8_nextWord_45 : decode cX8_nextWord 45 = .ok (.iload_n 3, 1) := by decide +kernel
theorem dX8_nextWord_46 : decode cX8_nextWord 46 = .ok (.iaload, 1) := by decide +kernel
theorem dX8_nextWord_47 : decode cX8_nextWord 47 = .ok (.if_icmp .lt 18, 3) := by decide +kernel
theorem dX8_nextWord_50 : decode cX8_nextWord 50 = .ok (.aload_n 2, 1) := by decide +kernel
theorem dX8_nextWord_51 : decode cX8_nextWord 51 = .ok (.dup, 1) := by decide +kernel
theorem dX8_nextWord_52 : decode cX8_nextWord 52 = .ok (.getfield 82, 3) := by decide +kernel
theorem dX8_nextWord_55 : decode cX8_nextWord 55 = .ok (.iconst 1, 1) := by decide +kernel
theorem dX8_nextWord_56 : decode cX8_nextWord 56 = .ok (.iadd, 1) := by decide +kernel
theorem dX8_nextWord_57 : decode cX8_nextWord 57 = .ok (.putfield 82, 3) := by decide +kernel
theorem dX8_nextWord_60 : decode cX8_nextWord 60 = .ok (.aload_n 2, 1) := by decide +kernel
theorem dX8_nextWord_61 : decode cX8_nextWord 61 = .ok (.iconst 0, 1) := by decide +kernel
theorem dX8_nextWord_62 : decode cX8_nextWord 62 = .ok (.putfield 88, 3) := by decide +kernel
theorem dX8_nextWord_65 : decode cX8_nextWord 65 = .ok (.aload_n 0, 1) := by decide +kernel
theorem dX8_nextWord_66 : decode cX8_nextWord 66 = .ok (.getfield 28, 3) := by decide +kernel
theorem dX8_nextWord_69 : decode cX8_nextWord 69 = .ok (.iload_n 3, 1) := by decide +kernel
theorem dX8_nextWord_70 : decode cX8_nextWord 70 = .ok (.iaload, 1) := by decide +kernel
theorem dX8_nextWord_71 : decode cX8_nextWord 71 = .ok (.ireturn, 1) := by decide +kernel
theorem dX8_copyText_0 : decode cX8_copyText 0 = .ok (.aload_n 0, 1) := by decide +kernel
theorem dX8_copyText_1 : decode cX8_copyText 1 = .ok (.getfield 18, 3) := by decide +kernel
theorem dX8_copyText_4 : decode cX8_copyText 4 = .ok (.iload_n 1, 1) := by decide +kernel
theorem dX8_copyText_5 : decode cX8_copyText 5 = .ok (.aload_n 2, 1) := by decide +kernel
theorem dX8_copyText_6 : decode cX8_copyText 6 = .ok (.getfield 18, 3) := by decide +kernel
theorem dX8_copyText_9 : decode cX8_copyText 9 = .ok (.iload_n 1, 1) := by decide +kernel
theorem dX8_copyText_10 : decode cX8_copyText 10 = .ok (.iaload, 1) := by decide +kernel
theorem dX8_copyText_11 : decode cX8_copyText 11 = .ok (.iastore, 1) := by decide +kernel
theorem dX8_copyText_12 : decode cX8_copyText 12 = .ok (.iload_n 1, 1) := by decide +kernel
theorem dX8_copyText_13 : decode cX8_copyText 13 = .ok (.tableswitch 110 0 2 #[27, 41, 60], 27) := by decide +kernel
theorem dX8_copyText_40 : decode cX8_copyText 40 = .ok (.aload_n 0, 1) := by decide +kernel
theorem dX8_copyText_41 : decode cX8_copyText 41 = .ok (.getfield 12, 3) := by decide +kernel
theorem dX8_copyText_44 : decode cX8_copyText 44 = .ok (.aload_n 2, 1) := by decide +kernel
theorem dX8_copyText_45 : decode cX8_copyText 45 = .ok (.getfield 12, 3) := by decide +kernel
theorem dX8_copyText_48 : decode cX8_copyText 48 = .ok (.invokevirtual 91, 3) := by decide +kernel
theorem dX8_copyText_51 : decode cX8_copyText 51 = .ok (.goto 102, 3) := by decide +kernel
theorem dX8_copyText_54 : decode cX8_copyText 54 = .ok (.aload_n 2, 1) := by decide +kernel
theorem dX8_copyText_55 : decode cX8_copyText 55 = .ok (.getfield 22, 3) := by decide +kernel
theorem dX8_copyText_58 : decode cX8_copyText 58 = .ok (.iconst 0, 1) := by decide +kernel
theorem dX8_copyText_59 : decode cX8_copyText 59 = .ok (.aload_n 0, 1) := by decide +kernel
theorem dX8_copyText_60 : decode cX8_copyText 60 = .ok (.getfield 22, 3) := by decide +kernel
theorem dX8_copyText_63 : decode cX8_copyText 63 = .ok (.iconst 0, 1) := by decide +kernel
theorem dX8_copyText_64 : decode cX8_copyText 64 = .ok (.sipush 144, 3) := by decide +kernel
theorem dX8_copyText_67 : decode cX8_copyText 67 = .ok (.invokestatic 95, 3) := by decide +kernel
theorem dX8_copyText_70 : decode cX8_copyText 70 = .ok (.goto 83, 3) := by decide +kernel
theorem dX8_copyText_73 : decode cX8_copyText 73 = .ok (.aload_n 2, 1) := by decide +kernel
theorem dX8_copyText_74 : decode cX8_copyText 74 = .ok (.getfield 25, 3) := by decide +kernel
theorem dX8_copyText_77 : decode cX8_copyText 77 = .ok (.iconst 0, 1) := by decide +kernel
theorem dX8_copyText_78 : decode cX8_copyText 78 = .ok (.aload_n 0, 1) := by decide +kernel
theorem dX8_copyText_79 : decode cX8_copyText 79 = .ok (.getfield 25, 3) := by decide +kernel
theorem dX8_copyText_82 : decode cX8_copyText 82 = .ok (.iconst 0, 1) := by decide +kernel
theorem dX8_copyText_83 : decode cX8_copyText 83 = .ok (.bipush 16, 2) := by decide +kernel
theorem dX8_copyText_85 : decode cX8_copyText 85 = .ok (.invokestatic 95, 3) := by decide +kernel
theorem dX8_copyText_88 : decode cX8_copyText 88 = .ok (.aload_n 2, 1) := by decide +kernel
theorem dX8_copyText_89 : decode cX8_copyText 89 = .ok (.getfield 28, 3) := by decide +kernel
theorem dX8_copyText_92 : decode cX8_copyText 92 = .ok (.iconst 0, 1) := by decide +kernel
theorem dX8_copyText_93 : decode cX8_copyText 93 = .ok (.aload_n 0, 1) := by decide +kernel
theorem dX8_copyText_94 : decode cX8_copyText 94 = .ok (.getfield 28, 3) := by decide +kernel
theorem dX8_copyText_97 : decode cX8_copyText 97 = .ok (.iconst 0, 1) := by decide +kernel
theorem dX8_copyText_98 : decode cX8_copyText 98 = .ok (.sipush 192, 3) := by decide +kernel
theorem dX8_copyText_101 : decode cX8_copyText 101 = .ok (.invokestatic 95, 3) := by decide +kernel
theorem dX8_copyText_104 : decode cX8_copyText 104 = .ok (.aload_n 2, 1) := by decide +kernel
theorem dX8_copyText_105 : decode cX8_copyText 105 = .ok (.getfield 31, 3) := by decide +kernel
theorem dX8_copyText_108 : decode cX8_copyText 108 = .ok (.iconst 0, 1) := by decide +kernel
theorem dX8_copyText_109 : decode cX8_copyText 109 = .ok (.aload_n 0, 1) := by decide +kernel
theorem dX8_copyText_110 : decode cX8_copyText 110 = .ok (.getfield 31, 3) := by decide +kernel
theorem dX8_copyText_113 : decode cX8_copyText 113 = .ok (.iconst 0, 1) := by decide +kernel
theorem dX8_copyText_114 : decode cX8_copyText 114 = .ok (.sipush 192, 3) := by decide +kernel
theorem dX8_copyText_117 : decode cX8_copyText 117 = .ok (.invokestatic 95, 3) := by decide +kernel
theorem dX8_copyText_120 : decode cX8_copyText 120 = .ok (.goto 33, 3) := by decide +kernel
theorem dX8_copyText_123 : decode cX8_copyText 123 = .ok (.aload_n 2, 1) := by decide +kernel
theorem dX8_copyText_124 : decode cX8_copyText 124 = .ok (.getfield 34, 3) := by decide +kernel
theorem dX8_copyText_127 : decode cX8_copyText 127 = .ok (.iconst 0, 1) := by decide +kernel
theorem dX8_copyText_128 : decode cX8_copyText 128 = .ok (.aload_n 0, 1) := by decide +kernel
theorem dX8_copyText_129 : decode cX8_copyText 129 = .ok (.getfield 34, 3) := by decide +kernel
theorem dX8_copyText_132 : decode cX8_copyText 132 = .ok (.iconst 0, 1) := by decide +kernel
theorem dX8_copyText_133 : decode cX8_copyText 133 = .ok (.bipush 16, 2) := by decide +kernel
theorem dX8_copyText_135 : decode cX8_copyText 135 = .ok (.invokestatic 95, 3) := by decide +kernel
theorem dX8_copyText_138 : decode cX8_copyText 138 = .ok (.aload_n 2, 1) := by decide +kernel
theorem dX8_copyText_139 : decode cX8_copyText 139 = .ok (.getfield 37, 3) := by decide +kernel
theorem dX8_copyText_142 : decode cX8_copyText 142 = .ok (.iconst 0, 1) := by decide +kernel
theorem dX8_copyText_143 : decode cX8_copyText 143 = .ok (.aload_n 0, 1) := by decide +kernel
theorem dX8_copyText_144 : decode cX8_copyText 144 = .ok (.getfield 37, 3) := by decide +kernel
theorem dX8_copyText_147 : decode cX8_copyText 147 = .ok (.iconst 0, 1) := by decide +kernel
theorem dX8_copyText_148 : decode cX8_copyText 148 = .ok (.bipush 16, 2) := by decide +kernel
theorem dX8_copyText_150 : decode cX8_copyText 150 = .ok (.invokestatic 95, 3) := by decide +kernel
theorem dX8_copyText_153 : decode cX8_copyText 153 = .ok (.return_, 1) := by decide +kernel
theorem dX8_copyFrom_0 : decode cX8_copyFrom 0 = .ok (.iconst 0, 1) := by decide +kernel
theorem dX8_copyFrom_1 : decode cX8_copyFrom 1 = .ok (.istore_n 2, 1) := by decide +kernel
theorem dX8_copyFrom_2 : decode cX8_copyFrom 2 = .ok (.iload_n 2, 1) := by decide +kernel
theorem dX8_copyFrom_3 : decode cX8_copyFrom 3 = .ok (.iconst 3, 1) := by decide +kernel
theorem dX8_copyFrom_4 : decode cX8_copyFrom 4 = .ok (.if_icmp .gt 15, 3) := by decide +kernel
theorem dX8_copyFrom_7 : decode cX8_copyFrom 7 = .ok (.aload_n 0, 1) := by decide +kernel
theorem dX8_copyFrom_8 : decode cX8_copyFrom 8 = .ok (.iload_n 2, 1) := by decide +kernel
theorem dX8_copyFrom_9 : decode cX8_copyFrom 9 = .ok (.aload_n 1, 1) := by decide +kernel
theorem dX8_copyFrom_10 : decode cX8_copyFrom 10 = .ok (.invokevirtual 101, 3) := by decide +kernel
theorem dX8_copyFrom_13 : decode cX8_copyFrom 13 = .ok (.iinc 2 1, 3) := by decide +kernel
theorem dX8_copyFrom_16 : decode cX8_copyFrom 16 = .ok (.goto (-14), 3) := by decide +kernel
theorem dX8_copyFrom_19 : decode cX8_copyFrom 19 = .ok (.return_, 1) := by decide +kernel
theorem dX8_stoneOf_0 : decode cX8_stoneOf 0 = .ok (.iload_n 0, 1) := by decide +kernel
theorem dX8_stoneOf_1 : decode cX8_stoneOf 1 = .ok (.tableswitch 51 141 147 #[47, 51, 51, 51, 45, 49, 43], 43) := by decide +kernel
theorem dX8_stoneOf_44 : decode cX8_stoneOf 44 = .ok (.iconst 0, 1) := by decide +kernel
theorem dX8_stoneOf_45 : decode cX8_stoneOf 45 = .ok (.ireturn, 1) := by decide +kernel
theorem dX8_stoneOf_46 : decode cX8_stoneOf 46 = .ok (.iconst 1, 1) := by decide +kernel
theorem dX8_stoneOf_47 : decode cX8_stoneOf 47 = .ok (.ireturn, 1) := by decide +kernel
theorem dX8_stoneOf_48 : decode cX8_stoneOf 48 = .ok (.iconst 2, 1) := by decide +kernel
theorem dX8_stoneOf_49 : decode cX8_stoneOf 49 = .ok (.ireturn, 1) := by decide +kernel
theorem dX8_stoneOf_50 : decode cX8_stoneOf 50 = .ok (.iconst 3, 1) := by decide +kernel
theorem dX8_stoneOf_51 : decode cX8_stoneOf 51 = .ok (.ireturn, 1) := by decide +kernel
theorem dX8_stoneOf_52 : decode cX8_stoneOf 52 = .ok (.iconst (-1), 1) := by decide +kernel
theorem dX8_stoneOf_53 : decode cX8_stoneOf 53 = .ok (.ireturn, 1) := by decide +kernel
theorem dX8_readArea_0 : decode cX8_readArea 0 = .ok (.aload_n 0, 1) := by decide +kernel
theorem dX8_readArea_1 : decode cX8_readArea 1 = .ok (.aload_n 1, 1) := by decide +kernel
theorem dX8_readArea_2 : decode cX8_readArea 2 = .ok (.invokevirtual 105, 3) := by decide +kernel
theorem dX8_readArea_5 : decode cX8_readArea 5 = .ok (.istore_n 3, 1) := by decide +kernel
theorem dX8_readArea_6 : decode cX8_readArea 6 = .ok (.iload_n 3, 1) := by decide +kernel
theorem dX8_readArea_7 : decode cX8_readArea 7 = .ok (.iconst (-1), 1) := by decide +kernel
theorem dX8_readArea_8 : decode cX8_readArea 8 = .ok (.if_icmp .ne 5, 3) := by decide +kernel
theorem dX8_readArea_11 : decode cX8_readArea 11 = .ok (.iconst 0, 1) := by decide +kernel
theorem dX8_readArea_12 : decode cX8_readArea 12 = .ok (.ireturn, 1) := by decide +kernel
theorem dX8_readArea_13 : decode cX8_readArea 13 = .ok (.iload_n 3, 1) := by decide +kernel
theorem dX8_readArea_14 : decode cX8_readArea 14 = .ok (.istore 4, 2) := by decide +kernel
theorem dX8_readArea_16 : decode cX8_readArea 16 = .ok (.aload_n 1, 1) := by decide +kernel
theorem dX8_readArea_17 : decode cX8_readArea 17 = .ok (.invokevirtual 46, 3) := by decide +kernel
theorem dX8_readArea_20 : decode cX8_readArea 20 = .ok (.sipush 148, 3) := by decide +kernel
theorem dX8_readArea_23 : decode cX8_readArea 23 = .ok (.if_icmp .ne 22, 3) := by decide +kernel
theorem dX8_readArea_26 : decode cX8_readArea 26 = .ok (.aload_n 1, 1) := by decide +kernel
theorem dX8_readArea_27 : decode cX8_readArea 27 = .ok (.invokevirtual 60, 3) := by decide +kernel
theorem dX8_readArea_30 : decode cX8_readArea 30 = .ok (.aload_n 0, 1) := by decide +kernel
theorem dX8_readArea_31 : decode cX8_readArea 31 = .ok (.aload_n 1, 1) := by decide +kernel
theorem dX8_readArea_32 : decode cX8_readArea 32 = .ok (.invokevirtual 105, 3) := by decide +kernel
theorem dX8_readArea_35 : decode cX8_readArea 35 = .ok (.istore 4, 2) := by decide +kernel
theorem dX8_readArea_37 : decode cX8_readArea 37 = .ok (.iload 4, 2) := by decide +kernel
theorem dX8_readArea_39 : decode cX8_readArea 39 = .ok (.iconst (-1), 1) := by decide +kernel
theorem dX8_readArea_40 : decode cX8_readArea 40 = .ok (.if_icmp .ne 5, 3) := by decide +kernel
theorem dX8_readArea_43 : decode cX8_readArea 43 = .ok (.iconst 0, 1) := by decide +kernel
theorem dX8_readArea_44 : decode cX8_readArea 44 = .ok (.ireturn, 1) := by decide +kernel
theorem dX8_readArea_45 : decode cX8_readArea 45 = .ok (.iload_n 3, 1) := by decide +kernel
theorem dX8_readArea_46 : decode cX8_readArea 46 = .ok (.bipush 12, 2) := by decide +kernel
theorem dX8_readArea_48 : decode cX8_readArea 48 = .ok (.irem, 1) := by decide +kernel
theorem dX8_readArea_49 : decode cX8_readArea 49 = .ok (.iload 4, 2) := by decide +kernel
theorem dX8_readArea_51 : decode cX8_readArea 51 = .ok (.bipush 12, 2) := by decide +kernel
theorem dX8_readArea_53 : decode cX8_readArea 53 = .ok (.irem, 1) := by decide +kernel
theorem dX8_readArea_54 : decode cX8_readArea 54 = .ok (.invokestatic 108, 3) := by decide +kernel
theorem dX8_readArea_57 : decode cX8_readArea 57 = .ok (.istore 5, 2) := by decide +kernel
theorem dX8_readArea_59 : decode cX8_readArea 59 = .ok (.iload_n 3, 1) := by decide +kernel
theorem dX8_readArea_60 : decode cX8_readArea 60 = .ok (.bipush 12, 2) := by decide +kernel
theorem dX8_readArea_62 : decode cX8_readArea 62 = .ok (.irem, 1) := by decide +kernel
theorem dX8_readArea_63 : decode cX8_readArea 63 = .ok (.iload 4, 2) := by decide +kernel
theorem dX8_readArea_65 : decode cX8_readArea 65 = .ok (.bipush 12, 2) := by decide +kernel
theorem dX8_readArea_67 : decode cX8_readArea 67 = .ok (.irem, 1) := by decide +kernel
theorem dX8_readArea_68 : decode cX8_readArea 68 = .ok (.invokestatic 113, 3) := by decide +kernel
theorem dX8_readArea_71 : decode cX8_readArea 71 = .ok (.istore 6, 2) := by decide +kernel
theorem dX8_readArea_73 : decode cX8_readArea 73 = .ok (.iload_n 3, 1) := by decide +kernel
theorem dX8_readArea_74 : decode cX8_readArea 74 = .ok (.iload 4, 2) := by decide +kernel
theorem dX8_readArea_76 : decode cX8_readArea 76 = .ok (.invokestatic 108, 3) := by decide +kernel
theorem dX8_readArea_79 : decode cX8_readArea 79 = .ok (.bipush 12, 2) := by decide +kernel
theorem dX8_readArea_81 : decode cX8_readArea 81 = .ok (.idiv, 1) := by decide +kernel
theorem dX8_readArea_82 : decode cX8_readArea 82 = .ok (.istore 7, 2) := by decide +kernel
theorem dX8_readArea_84 : decode cX8_readArea 84 = .ok (.iload_n 3, 1) := by decide +kernel
theorem dX8_readArea_85 : decode cX8_readArea 85 = .ok (.iload 4, 2) := by decide +kernel
theorem dX8_readArea_87 : decode cX8_readArea 87 = .ok (.invokestatic 113, 3) := by decide +kernel
theorem dX8_readArea_90 : decode cX8_readArea 90 = .ok (.bipush 12, 2) := by decide +kernel
theorem dX8_readArea_92 : decode cX8_readArea 92 = .ok (.idiv, 1) := by decide +kernel
theorem dX8_readArea_93 : decode cX8_readArea 93 = .ok (.istore 8, 2) := by decide +kernel
theorem dX8_readArea_95 : decode cX8_readArea 95 = .ok (.iload 7, 2) := by decide +kernel
theorem dX8_readArea_97 : decode cX8_readArea 97 = .ok (.istore 9, 2) := by decide +kernel
theorem dX8_readArea_99 : decode cX8_readArea 99 = .ok (.iload 9, 2) := by decide +kernel
theorem dX8_readArea_101 : decode cX8_readArea 101 = .ok (.iload 8, 2) := by decide +kernel
theorem dX8_readArea_103 : decode cX8_readArea 103 = .ok (.if_icmp .gt 40, 3) := by decide +kernel
theorem dX8_readArea_106 : decode cX8_readArea 106 = .ok (.iload 5, 2) := by decide +kernel
theorem dX8_readArea_108 : decode cX8_readArea 108 = .ok (.istore 10, 2) := by decide +kernel
theorem dX8_readArea_110 : decode cX8_readArea 110 = .ok (.iload 10, 2) := by decide +kernel
theorem dX8_readArea_112 : decode cX8_readArea 112 = .ok (.iload 6, 2) := by decide +kernel
theorem dX8_readArea_114 : decode cX8_readArea 114 = .ok (.if_icmp .gt 23, 3) := by decide +kernel
theorem dX8_readArea_117 : decode cX8_readArea 117 = .ok (.aload_n 0, 1) := by decide +kernel
theorem dX8_readArea_118 : decode cX8_readArea 118 = .ok (.getfield 22, 3) := by decide +kernel
theorem dX8_readArea_121 : decode cX8_readArea 121 = .ok (.bipush 12, 2) := by decide +kernel
theorem dX8_readArea_123 : decode cX8_readArea 123 = .ok (.iload 9, 2) := by decide +kernel
theorem dX8_readArea_125 : decode cX8_readArea 125 = .ok (.imul, 1) := by decide +kernel
theorem dX8_readArea_126 : decode cX8_readArea 126 = .ok (.iload 10, 2) := by decide +kernel
theorem dX8_readArea_128 : decode cX8_readArea 128 = .ok (.iadd, 1) := by decide +kernel
theorem dX8_readArea_129 : decode cX8_readArea 129 = .ok (.iload_n 2, 1) := by decide +kernel
theorem dX8_readArea_130 : decode cX8_readArea 130 = .ok (.iastore, 1) := by decide +kernel
theorem dX8_readArea_131 : decode cX8_readArea 131 = .ok (.iinc 10 1, 3) := by decide +kernel
theorem dX8_readArea_134 : decode cX8_readArea 134 = .ok (.goto (-24), 3) := by decide +kernel
theorem dX8_readArea_137 : decode cX8_readArea 137 = .ok (.iinc 9 1, 3) := by decide +kernel
theorem dX8_readArea_140 : decode cX8_readArea 140 = .ok (.goto (-41), 3) := by decide +kernel
theorem dX8_readArea_143 : decode cX8_readArea 143 = .ok (.iconst 1, 1) := by decide +kernel
theorem dX8_readArea_144 : decode cX8_readArea 144 = .ok (.ireturn, 1) := by decide +kernel
theorem dX8_readPlace_0 : decode cX8_readPlace 0 = .ok (.aload_n 1, 1) := by decide +kernel
theorem dX8_readPlace_1 : decode cX8_readPlace 1 = .ok (.iconst 0, 1) := by decide +kernel
theorem dX8_readPlace_2 : decode cX8_readPlace 2 = .ok (.bipush 11, 2) := by decide +kernel
theorem dX8_readPlace_4 : decode cX8_readPlace 4 = .ok (.invokevirtual 71, 3) := by decide +kernel
theorem dX8_readPlace_7 : decode cX8_readPlace 7 = .ok (.istore_n 2, 1) := by decide +kernel
theorem dX8_readPlace_8 : decode cX8_readPlace 8 = .ok (.iload_n 2, 1) := by decide +kernel
theorem dX8_readPlace_9 : decode cX8_readPlace 9 = .ok (.iconst (-1), 1) := by decide +kernel
theorem dX8_readPlace_10 : decode cX8_readPlace 10 = .ok (.if_icmp .ne 7, 3) := by decide +kernel
theorem dX8_readPlace_13 : decode cX8_readPlace 13 = .ok (.iconst (-1), 1) := by decide +kernel
theorem dX8_readPlace_14 : decode cX8_readPlace 14 = .ok (.goto 10, 3) := by decide +kernel
theorem dX8_readPlace_17 : decode cX8_readPlace 17 = .ok (.aload_n 1, 1) := by decide +kernel
theorem dX8_readPlace_18 : decode cX8_readPlace 18 = .ok (.iconst 0, 1) := by decide +kernel
theorem dX8_readPlace_19 : decode cX8_readPlace 19 = .ok (.bipush 11, 2) := by decide +kernel
theorem dX8_readPlace_21 : decode cX8_readPlace 21 = .ok (.invokevirtual 71, 3) := by decide +kernel
theorem dX8_readPlace_24 : decode cX8_readPlace 24 = .ok (.istore_n 3, 1) := by decide +kernel
theorem dX8_readPlace_25 : decode cX8_readPlace 25 = .ok (.iload_n 3, 1) := by decide +kernel
theorem dX8_readPlace_26 : decode cX8_readPlace 26 = .ok (.iconst (-1), 1) := by decide +kernel
theorem dX8_readPlace_27 : decode cX8_readPlace 27 = .ok (.if_icmp .ne 7, 3) := by decide +kernel
theorem dX8_readPlace_30 : decode cX8_readPlace 30 = .ok (.iconst (-1), 1) := by decide +kernel
theorem dX8_readPlace_31 : decode cX8_readPlace 31 = .ok (.goto 9, 3) := by decide +kernel
theorem dX8_readPlace_34 : decode cX8_readPlace 34 = .ok (.bipush 12, 2) := by decide +kernel
theorem dX8_readPlace_36 : decode cX8_readPlace 36 = .ok (.iload_n 3, 1) := by decide +kernel
theorem dX8_readPlace_37 : decode cX8_readPlace 37 = .ok (.imul, 1) := by decide +kernel
theorem dX8_readPlace_38 : decode cX8_readPlace 38 = .ok (.iload_n 2, 1) := by decide +kernel
theorem dX8_readPlace_39 : decode cX8_readPlace 39 = .ok (.iadd, 1) := by decide +kernel
theorem dX8_readPlace_40 : decode cX8_readPlace 40 = .ok (.ireturn, 1) := by decide +kernel
theorem dX8_readWay_0 : decode cX8_readWay 0 = .ok (.iconst 0, 1) := by decide +kernel
theorem dX8_readWay_1 : decode cX8_readWay 1 = .ok (.istore_n 3, 1) := by decide +kernel
theorem dX8_readWay_2 : decode cX8_readWay 2 = .ok (.iload_n 3, 1) := by decide +kernel
theorem dX8_readWay_3 : decode cX8_readWay 3 = .ok (.bipush 12, 2) := by decide +kernel
theorem dX8_readWay_5 : decode cX8_readWay 5 = .ok (.if_icmp .gt 124, 3) := by decide +kernel
theorem dX8_readWay_8 : decode cX8_readWay 8 = .ok (.aload_n 1, 1) := by decide +kernel
theorem dX8_readWay_9 : decode cX8_readWay 9 = .ok (.invokevirtual 46, 3) := by decide +kernel
theorem dX8_readWay_12 : decode cX8_readWay 12 = .ok (.bipush 59, 2) := by decide +kernel
theorem dX8_readWay_14 : decode cX8_readWay 14 = .ok (.if_icmp .eq 115, 3) := by decide +kernel
theorem dX8_readWay_17 : decode cX8_readWay 17 = .ok (.aload_n 1, 1) := by decide +kernel
theorem dX8_readWay_18 : decode cX8_readWay 18 = .ok (.invokevirtual 46, 3) := by decide +kernel
theorem dX8_readWay_21 : decode cX8_readWay 21 = .ok (.istore 4, 2) := by decide +kernel
theorem dX8_readWay_23 : decode cX8_readWay 23 = .ok (.aload_n 1, 1) := by decide +kernel
theorem dX8_readWay_24 : decode cX8_readWay 24 = .ok (.iload 4, 2) := by decide +kernel
theorem dX8_readWay_26 : decode cX8_readWay 26 = .ok (.sipush 150, 3) := by decide +kernel
theorem dX8_readWay_29 : decode cX8_readWay 29 = .ok (.if_icmp .lt 15, 3) := by decide +kernel
theorem dX8_readWay_32 : decode cX8_readWay 32 = .ok (.iload 4, 2) := by decide +kernel
theorem dX8_readWay_34 : decode cX8_readWay 34 = .ok (.sipush 154, 3) := by decide +kernel
theorem dX8_readWay_37 : decode cX8_readWay 37 = .ok (.if_icmp .gt 7, 3) := by decide +kernel
theorem dX8_readWay_40 : decode cX8_readWay 40 = .ok (.iconst 1, 1) := by decide +kernel
theorem dX8_readWay_41 : decode cX8_readWay 41 = .ok (.goto 4, 3) := by decide +kernel
theorem dX8_readWay_44 : decode cX8_readWay 44 = .ok (.iconst 0, 1) := by decide +kernel
theorem dX8_readWay_45 : decode cX8_readWay 45 = .ok (.iload_n 3, 1) := by decide +kernel
theorem dX8_readWay_46 : decode cX8_readWay 46 = .ok (.bipush 12, 2) := by decide +kernel
theorem dX8_readWay_48 : decode cX8_readWay 48 = .ok (.invokevirtual 56, 3) := by decide +kernel
theorem dX8_readWay_51 : decode cX8_readWay 51 = .ok (.ifCond .ne 5, 3) := by decide +kernel
theorem dX8_readWay_54 : decode cX8_readWay 54 = .ok (.iconst 0, 1) := by decide +kernel
theorem dX8_readWay_55 : decode cX8_readWay 55 = .ok (.ireturn, 1) := by decide +kernel
theorem dX8_readWay_56 : decode cX8_readWay 56 = .ok (.aload_n 1, 1) := by decide +kernel
theorem dX8_readWay_57 : decode cX8_readWay 57 = .ok (.invokevirtual 60, 3) := by decide +kernel
theorem dX8_readWay_60 : decode cX8_readWay 60 = .ok (.iload 4, 2) := by decide +kernel
theorem dX8_readWay_62 : decode cX8_readWay 62 = .ok (.sipush 150, 3) := by decide +kernel
theorem dX8_readWay_65 : decode cX8_readWay 65 = .ok (.if_icmp .eq 11, 3) := by decide +kernel
theorem dX8_readWay_68 : decode cX8_readWay 68 = .ok (.iload 4, 2) := by decide +kernel
theorem dX8_readWay_70 : decode cX8_readWay 70 = .ok (.sipush 154, 3) := by decide +kernel
theorem dX8_readWay_73 : decode cX8_readWay 73 = .ok (.if_icmp .ne 13, 3) := by decide +kernel
theorem dX8_readWay_76 : decode cX8_readWay 76 = .ok (.aload_n 1, 1) := by decide +kernel
theorem dX8_readWay_77 : decode cX8_readWay 77 = .ok (.iconst 1, 1) := by decide +kernel
theorem dX8_readWay_78 : decode cX8_readWay 78 = .ok (.bipush 11, 2) := by decide +kernel
theorem dX8_readWay_80 : decode cX8_readWay 80 = .ok (.invokevirtual 71, 3) := by decide +kernel
theorem dX8_readWay_83 : decode cX8_readWay 83 = .ok (.goto 4, 3) := by decide +kernel
theorem dX8_readWay_86 : decode cX8_readWay 86 = .ok (.iconst 1, 1) := by decide +kernel
theorem dX8_readWay_87 : decode cX8_readWay 87 = .ok (.istore 5, 2) := by decide +kernel
theorem dX8_readWay_89 : decode cX8_readWay 89 = .ok (.iload 5, 2) := by decide +kernel
theorem dX8_readWay_91 : decode cX8_readWay 91 = .ok (.iconst (-1), 1) := by decide +kernel
theorem dX8_readWay_92 : decode cX8_readWay 92 = .ok (.if_icmp .ne 5, 3) := by decide +kernel
theorem dX8_readWay_95 : decode cX8_readWay 95 = .ok (.iconst 0, 1) := by decide +kernel
theorem dX8_readWay_96 : decode cX8_readWay 96 = .ok (.ireturn, 1) := by decide +kernel
theorem dX8_readWay_97 : decode cX8_readWay 97 = .ok (.aload_n 0, 1) := by decide +kernel
theorem dX8_readWay_98 : decode cX8_readWay 98 = .ok (.getfield 28, 3) := by decide +kernel
theorem dX8_readWay_101 : decode cX8_readWay 101 = .ok (.bipush 12, 2) := by decide +kernel
theorem dX8_readWay_103 : decode cX8_readWay 103 = .ok (.iload_n 2, 1) := by decide +kernel
theorem dX8_readWay_104 : decode cX8_readWay 104 = .ok (.imul, 1) := by decide +kernel
theorem dX8_readWay_105 : decode cX8_readWay 105 = .ok (.iload_n 3, 1) := by decide +kernel
theorem dX8_readWay_106 : decode cX8_readWay 106 = .ok (.iadd, 1) := by decide +kernel
theorem dX8_readWay_107 : decode cX8_readWay 107 = .ok (.iload 4, 2) := by decide +kernel
theorem dX8_readWay_109 : decode cX8_readWay 109 = .ok (.iastore, 1) := by decide +kernel
theorem dX8_readWay_110 : decode cX8_readWay 110 = .ok (.aload_n 0, 1) := by decide +kernel
theorem dX8_readWay_111 : decode cX8_readWay 111 = .ok (.getfield 31, 3) := by decide +kernel
theorem dX8_readWay_114 : decode cX8_readWay 114 = .ok (.bipush 12, 2) := by decide +kernel
theorem dX8_readWay_116 : decode cX8_readWay 116 = .ok (.iload_n 2, 1) := by decide +kernel
theorem dX8_readWay_117 : decode cX8_readWay 117 = .ok (.imul, 1) := by decide +kernel
theorem dX8_readWay_118 : decode cX8_readWay 118 = .ok (.iload_n 3, 1) := by decide +kernel
theorem dX8_readWay_119 : decode cX8_readWay 119 = .ok (.iadd, 1) := by decide +kernel
theorem dX8_readWay_120 : decode cX8_readWay 120 = .ok (.iload 5, 2) := by decide +kernel
theorem dX8_readWay_122 : decode cX8_readWay 122 = .ok (.iastore, 1) := by decide +kernel
theorem dX8_readWay_123 : decode cX8_readWay 123 = .ok (.iinc 3 1, 3) := by decide +kernel
theorem dX8_readWay_126 : decode cX8_readWay 126 = .ok (.goto (-124), 3) := by decide +kernel
theorem dX8_readWay_129 : decode cX8_readWay 129 = .ok (.aload_n 0, 1) := by decide +kernel
theorem dX8_readWay_130 : decode cX8_readWay 130 = .ok (.getfield 25, 3) := by decide +kernel
theorem dX8_readWay_133 : decode cX8_readWay 133 = .ok (.iload_n 2, 1) := by decide +kernel
theorem dX8_readWay_134 : decode cX8_readWay 134 = .ok (.iload_n 3, 1) := by decide +kernel
theorem dX8_readWay_135 : decode cX8_readWay 135 = .ok (.iastore, 1) := by decide +kernel
theorem dX8_readWay_136 : decode cX8_readWay 136 = .ok (.aload_n 1, 1) := by decide +kernel
theorem dX8_readWay_137 : decode cX8_readWay 137 = .ok (.bipush 59, 2) := by decide +kernel
theorem dX8_readWay_139 : decode cX8_readWay 139 = .ok (.invokevirtual 67, 3) := by decide +kernel
theorem dX8_readWay_142 : decode cX8_readWay 142 = .ok (.ireturn, 1) := by decide +kernel
theorem dX8_readWatchers_0 : decode cX8_readWatchers 0 = .ok (.aload_n 1, 1) := by decide +kernel
theorem dX8_readWatchers_1 : decode cX8_readWatchers 1 = .ok (.invokevirtual 46, 3) := by decide +kernel
theorem dX8_readWatchers_4 : decode cX8_readWatchers 4 = .ok (.sipush 156, 3) := by decide +kernel
theorem dX8_readWatchers_7 : decode cX8_readWatchers 7 = .ok (.if_icmp .ne 9, 3) := by decide +kernel
theorem dX8_readWatchers_10 : decode cX8_readWatchers 10 = .ok (.aload_n 1, 1) := by decide +kernel
theorem dX8_readWatchers_11 : decode cX8_readWatchers 11 = .ok (.invokevirtual 60, 3) := by decide +kernel
theorem dX8_readWatchers_14 : decode cX8_readWatchers 14 = .ok (.iconst 0, 1) := by decide +kernel
theorem dX8_readWatchers_15 : decode cX8_readWatchers 15 = .ok (.ireturn, 1) := by decide +kernel
theorem dX8_readWatchers_16 : decode cX8_readWatchers 16 = .ok (.aload_n 1, 1) := by decide +kernel
theorem dX8_readWatchers_17 : decode cX8_readWatchers 17 = .ok (.sipush 143, 3) := by decide +kernel
theorem dX8_readWatchers_20 : decode cX8_readWatchers 20 = .ok (.invokevirtual 67, 3) := by decide +kernel
theorem dX8_readWatchers_23 : decode cX8_readWatchers 23 = .ok (.ifCond .eq 13, 3) := by decide +kernel
theorem dX8_readWatchers_26 : decode cX8_readWatchers 26 = .ok (.aload_n 1, 1) := by decide +kernel
theorem dX8_readWatchers_27 : decode cX8_readWatchers 27 = .ok (.iconst 1, 1) := by decide +kernel
theorem dX8_readWatchers_28 : decode cX8_readWatchers 28 = .ok (.bipush 9, 2) := by decide +kernel
theorem dX8_readWatchers_30 : decode cX8_readWatchers 30 = .ok (.invokevirtual 71, 3) := by decide +kernel
theorem dX8_readWatchers_33 : decode cX8_readWatchers 33 = .ok (.goto 4, 3) := by decide +kernel
theorem dX8_readWatchers_36 : decode cX8_readWatchers 36 = .ok (.iconst (-1), 1) := by decide +kernel
theorem dX8_readWatchers_37 : decode cX8_readWatchers 37 = .ok (.ireturn, 1) := by decide +kernel
theorem dX9_init_0 : decode cX9_init 0 = .ok (.aload_n 0, 1) := by decide +kernel
theorem dX9_init_1 : decode cX9_init 1 = .ok (.invokespecial 3, 3) := by decide +kernel
theorem dX9_init_4 : decode cX9_init 4 = .ok (.return_, 1) := by decide +kernel
theorem dX9_begin_0 : decode cX9_begin 0 = .ok (.aload_n 0, 1) := by decide +kernel
theorem dX9_begin_1 : decode cX9_begin 1 = .ok (.iload_n 1, 1) := by decide +kernel
theorem dX9_begin_2 : decode cX9_begin 2 = .ok (.putfield 9, 3) := by decide +kernel
theorem dX9_begin_5 : decode cX9_begin 5 = .ok (.aload_n 0, 1) := by decide +kernel
theorem dX9_begin_6 : decode cX9_begin 6 = .ok (.iconst 0, 1) := by decide +kernel
theorem dX9_begin_7 : decode cX9_begin 7 = .ok (.putfield 15, 3) := by decide +kernel
theorem dX9_begin_10 : decode cX9_begin 10 = .ok (.aload_n 0, 1) := by decide +kernel
theorem dX9_begin_11 : decode cX9_begin 11 = .ok (.iconst 0, 1) := by decide +kernel
theorem dX9_begin_12 : decode cX9_begin 12 = .ok (.putfield 19, 3) := by decide +kernel
theorem dX9_begin_15 : decode cX9_begin 15 = .ok (.aload_n 0, 1) := by decide +kernel
theorem dX9_begin_16 : decode cX9_begin 16 = .ok (.iconst 0, 1) := by decide +kernel
theorem dX9_begin_17 : decode cX9_begin 17 = .ok (.putfield 22, 3) := by decide +kernel
theorem dX9_begin_20 : decode cX9_begin 20 = .ok (.aload_n 0, 1) := by decide +kernel
theorem dX9_begin_21 : decode cX9_begin 21 = .ok (.iconst 0, 1) := by decide +kernel
theorem dX9_begin_22 : decode cX9_begin 22 = .ok (.putfield 25, 3) := by decide +kernel
theorem dX9_begin_25 : decode cX9_begin 25 = .ok (.aload_n 0, 1) := by decide +kernel
theorem dX9_begin_26 : decode cX9_begin 26 = .ok (.invokevirtual 28, 3) := by decide +kernel
theorem dX9_begin_29 : decode cX9_begin 29 = .ok (.return_, 1) := by decide +kernel
theorem dX9_beginWay_0 : decode cX9_beginWay 0 = .ok (.aload_n 0, 1) := by decide +kernel
theorem dX9_beginWay_1 : decode cX9_beginWay 1 = .ok (.iconst 0, 1) := by decide +kernel
theorem dX9_beginWay_2 : decode cX9_beginWay 2 = .ok (.putfield 31, 3) := by decide +kernel
theorem dX9_beginWay_5 : decode cX9_beginWay 5 = .ok (.aload_n 0, 1) := by decide +kernel
theorem dX9_beginWay_6 : decode cX9_beginWay 6 = .ok (.iconst 0, 1) := by decide +kernel
theorem dX9_beginWay_7 : decode cX9_beginWay 7 = .ok (.putfield 34, 3) := by decide +kernel
theorem dX9_beginWay_10 : decode cX9_beginWay 10 = .ok (.return_, 1) := by decide +kernel
theorem dX9_enter_0 : decode cX9_enter 0 = .ok (.aload_n 0, 1) := by decide +kernel
theorem dX9_enter_1 : decode cX9_enter 1 = .ok (.iconst 1, 1) := by decide +kernel
theorem dX9_enter_2 : decode cX9_enter 2 = .ok (.putfield 15, 3) := by decide +kernel
theorem dX9_enter_5 : decode cX9_enter 5 = .ok (.aload_n 0, 1) := by decide +kernel
theorem dX9_enter_6 : decode cX9_enter 6 = .ok (.iload_n 2, 1) := by decide +kernel
theorem dX9_enter_7 : decode cX9_enter 7 = .ok (.bipush 12, 2) := by decide +kernel
theorem dX9_enter_9 : decode cX9_enter 9 = .ok (.irem, 1) := by decide +kernel
theorem dX9_enter_10 : decode cX9_enter 10 = .ok (.putfield 37, 3) := by decide +kernel
theorem dX9_enter_13 : decode cX9_enter 13 = .ok (.aload_n 0, 1) := by decide +kernel
theorem dX9_enter_14 : decode cX9_enter 14 = .ok (.iload_n 2, 1) := by decide +kernel
theorem dX9_enter_15 : decode cX9_enter 15 = .ok (.bipush 12, 2) := by decide +kernel
theorem dX9_enter_17 : decode cX9_enter 17 = .ok (.idiv, 1) := by decide +kernel
theorem dX9_enter_18 : decode cX9_enter 18 = .ok (.putfield 40, 3) := by decide +kernel
theorem dX9_enter_21 : decode cX9_enter 21 = .ok (.aload_n 0, 1) := by decide +kernel
theorem dX9_enter_22 : decode cX9_enter 22 = .ok (.iload_n 1, 1) := by decide +kernel
theorem dX9_enter_23 : decode cX9_enter 23 = .ok (.putfield 43, 3) := by decide +kernel
theorem dX9_enter_26 : decode cX9_enter 26 = .ok (.aload_n 0, 1) := by decide +kernel
theorem dX9_enter_27 : decode cX9_enter 27 = .ok (.iload_n 1, 1) := by decide +kernel
theorem dX9_enter_28 : decode cX9_enter 28 = .ok (.putfield 46, 3) := by decide +kernel
theorem dX9_enter_31 : decode cX9_enter 31 = .ok (.aload_n 0, 1) := by decide +kernel
theorem dX9_enter_32 : decode cX9_enter 32 = .ok (.iconst 0, 1) := by decide +kernel
theorem dX9_enter_33 : decode cX9_enter 33 = .ok (.putfield 49, 3) := by decide +kernel
theorem dX9_enter_36 : decode cX9_enter 36 = .ok (.aload_n 0, 1) := by decide +kernel
theorem dX9_enter_37 : decode cX9_enter 37 = .ok (.iconst 0, 1) := by decide +kernel
theorem dX9_enter_38 : decode cX9_enter 38 = .ok (.putfield 52, 3) := by decide +kernel
theorem dX9_enter_41 : decode cX9_enter 41 = .ok (.aload_n 0, 1) := by decide +kernel
theorem dX9_enter_42 : decode cX9_enter 42 = .ok (.invokevirtual 28, 3) := by decide +kernel
theorem dX9_enter_45 : decode cX9_enter 45 = .ok (.return_, 1) := by decide +kernel
theorem dX9_at_0 : decode cX9_at 0 = .ok (.bipush 12, 2) := by decide +kernel
theorem dX9_at_2 : decode cX9_at 2 = .ok (.aload_n 0, 1) := by decide +kernel
theorem dX9_at_3 : decode cX9_at 3 = .ok (.getfield 40, 3) := by decide +kernel
theorem dX9_at_6 : decode cX9_at 6 = .ok (.imul, 1) := by decide +kernel
theorem dX9_at_7 : decode cX9_at 7 = .ok (.aload_n 0, 1) := by decide +kernel
theorem dX9_at_8 : decode cX9_at 8 = .ok (.getfield 37, 3) := by decide +kernel
theorem dX9_at_11 : decode cX9_at 11 = .ok (.iadd, 1) := by decide +kernel
theorem dX9_at_12 : decode cX9_at 12 = .ok (.ireturn, 1) := by decide +kernel
theorem dX9_ahead_0 : decode cX9_ahead 0 = .ok (.aload_n 0, 1) := by decide +kernel
theorem dX9_ahead_1 : decode cX9_ahead 1 = .ok (.getfield 37, 3) := by decide +kernel
theorem dX9_ahead_4 : decode cX9_ahead 4 = .ok (.getstatic 55, 3) := by decide +kernel
theorem dX9_ahead_7 : decode cX9_ahead 7 = .ok (.aload_n 0, 1) := by decide +kernel
theorem dX9_ahead_8 : decode cX9_ahead 8 = .ok (.getfield 43, 3) := by decide +kernel
theorem dX9_ahead_11 : decode cX9_ahead 11 = .ok (.iconst 3, 1) := by decide +kernel
theorem dX9_ahead_12 : decode cX9_ahead 12 = .ok (.iand, 1) := by decide +kernel
theorem dX9_ahead_13 : decode cX9_ahead 13 = .ok (.iaload, 1) := by decide +kernel
theorem dX9_ahead_14 : decode cX9_ahead 14 = .ok (.iadd, 1) := by decide +kernel
theorem dX9_ahead_15 : decode cX9_ahead 15 = .ok (.istore_n 1, 1) := by decide +kernel
theorem dX9_ahead_16 : decode cX9_ahead 16 = .ok (.aload_n 0, 1) := by decide +kernel
theorem dX9_ahead_17 : decode cX9_ahead 17 = .ok (.getfield 40, 3) := by decide +kernel
theorem dX9_ahead_20 : decode cX9_ahead 20 = .ok (.getstatic 59, 3) := by decide +kernel
theorem dX9_ahead_23 : decode cX9_ahead 23 = .ok (.aload_n 0, 1) := by decide +kernel
theorem dX9_ahead_24 : decode cX9_ahead 24 = .ok (.getfield 43, 3) := by decide +kernel
theorem dX9_ahead_27 : decode cX9_ahead 27 = .ok (.iconst 3, 1) := by decide +kernel
theorem dX9_ahead_28 : decode cX9_ahead 28 = .ok (.iand, 1) := by decide +kernel
theorem dX9_ahead_29 : decode cX9_ahead 29 = .ok (.iaload, 1) := by decide +kernel
theorem dX9_ahead_30 : decode cX9_ahead 30 = .ok (.iadd, 1) := by decide +kernel
theorem dX9_ahead_31 : decode cX9_ahead 31 = .ok (.istore_n 2, 1) := by decide +kernel
theorem dX9_ahead_32 : decode cX9_ahead 32 = .ok (.iload_n 1, 1) := by decide +kernel
theorem dX9_ahead_33 : decode cX9_ahead 33 = .ok (.invokestatic 62, 3) := by decide +kernel
theorem dX9_ahead_36 : decode cX9_ahead 36 = .ok (.ifCond .eq 19, 3) := by decide +kernel
theorem dX9_ahead_39 : decode cX9_ahead 39 = .ok (.iload_n 2, 1) := by decide +kernel
theorem dX9_ahead_40 : decode cX9_ahead 40 = .ok (.invokestatic 62, 3) := by decide +kernel
theorem dX9_ahead_43 : decode cX9_ahead 43 = .ok (.ifCond .eq 12, 3) := by decide +kernel
theorem dX9_ahead_46 : decode cX9_ahead 46 = .ok (.bipush 12, 2) := by decide +kernel
theorem dX9_ahead_48 : decode cX9_ahead 48 = .ok (.iload_n 2, 1) := by decide +kernel
theorem dX9_ahead_49 : decode cX9_ahead 49 = .ok (.imul, 1) := by decide +kernel
theorem dX9_ahead_50 : decode cX9_ahead 50 = .ok (.iload_n 1, 1) := by decide +kernel
theorem dX9_ahead_51 : decode cX9_ahead 51 = .ok (.iadd, 1) := by decide +kernel
theorem dX9_ahead_52 : decode cX9_ahead 52 = .ok (.goto 4, 3) := by decide +kernel
theorem dX9_ahead_55 : decode cX9_ahead 55 = .ok (.iconst (-1), 1) := by decide +kernel
theorem dX9_ahead_56 : decode cX9_ahead 56 = .ok (.ireturn, 1) := by decide +kernel
theorem dX9_stand_0 : decode cX9_stand 0 = .ok (.aload_n 0, 1) := by decide +kernel
theorem dX9_stand_1 : decode cX9_stand 1 = .ok (.iload_n 1, 1) := by decide +kernel
theorem dX9_stand_2 : decode cX9_stand 2 = .ok (.bipush 12, 2) := by decide +kernel
theorem dX9_stand_4 : decode cX9_stand 4 = .ok (.irem, 1) := by decide +kernel
theorem dX9_stand_5 : decode cX9_stand 5 = .ok (.putfield 37, 3) := by decide +kernel
theorem dX9_stand_8 : decode cX9_stand 8 = .ok (.aload_n 0, 1) := by decide +kernel
theorem dX9_stand_9 : decode cX9_stand 9 = .ok (.iload_n 1, 1) := by decide +kernel
theorem dX9_stand_10 : decode cX9_stand 10 = .ok (.bipush 12, 2) := by decide +kernel
theorem dX9_stand_12 : decode cX9_stand 12 = .ok (.idiv, 1) := by decide +kernel
theorem dX9_stand_13 : decode cX9_stand 13 = .ok (.putfield 40, 3) := by decide +kernel
theorem dX9_stand_16 : decode cX9_stand 16 = .ok (.return_, 1) := by decide +kernel
theorem dX9_face_0 : decode cX9_face 0 = .ok (.aload_n 0, 1) := by decide +kernel
theorem dX9_face_1 : decode cX9_face 1 = .ok (.aload_n 0, 1) := by decide +kernel
theorem dX9_face_2 : decode cX9_face 2 = .ok (.getfield 43, 3) := by decide +kernel
theorem dX9_face_5 : decode cX9_face 5 = .ok (.iload_n 1, 1) := by decide +kernel
theorem dX9_face_6 : decode cX9_face 6 = .ok (.ifCond .ne 7, 3) := by decide +kernel
theorem dX9_face_9 : decode cX9_face 9 = .ok (.iconst 3, 1) := by decide +kernel
theorem dX9_face_10 : decode cX9_face 10 = .ok (.goto 4, 3) := by decide +kernel
theorem dX9_face_13 : decode cX9_face 13 = .ok (.iload_n 1, 1) := by decide +kernel
theorem dX9_face_14 : decode cX9_face 14 = .ok (.iadd, 1) := by decide +kernel
theorem dX9_face_15 : decode cX9_face 15 = .ok (.iconst 3, 1) := by decide +kernel
theorem dX9_face_16 : decode cX9_face 16 = .ok (.iand, 1) := by decide +kernel
theorem dX9_face_17 : decode cX9_face 17 = .ok (.putfield 43, 3) := by decide +kernel
theorem dX9_face_20 : decode cX9_face 20 = .ok (.return_, 1) := by decide +kernel
theorem dX9_copyFrom_0 : decode cX9_copyFrom 0 = .ok (.aload_n 0, 1) := by decide +kernel
theorem dX9_copyFrom_1 : decode cX9_copyFrom 1 = .ok (.aload_n 1, 1) := by decide +kernel
theorem dX9_copyFrom_2 : decode cX9_copyFrom 2 = .ok (.getfield 9, 3) := by decide +kernel
theorem dX9_copyFrom_5 : decode cX9_copyFrom 5 = .ok (.putfield 9, 3) := by decide +kernel
theorem dX9_copyFrom_8 : decode cX9_copyFrom 8 = .ok (.aload_n 0, 1) := by decide +kernel
theorem dX9_copyFrom_9 : decode cX9_copyFrom 9 = .ok (.aload_n 1, 1) := by decide +kernel
theorem dX9_copyFrom_10 : decode cX9_copyFrom 10 = .ok (.getfield 15, 3) := by decide +kernel
theorem dX9_copyFrom_13 : decode cX9_copyFrom 13 = .ok (.putfield 15, 3) := by decide +kernel
theorem dX9_copyFrom_16 : decode cX9_copyFrom 16 = .ok (.aload_n 0, 1) := by decide +kernel
theorem dX9_copyFrom_17 : decode cX9_copyFrom 17 = .ok (.aload_n 1, 1) := by decide +kernel
theorem dX9_copyFrom_18 : decode cX9_copyFrom 18 = .ok (.getfield 37, 3) := by decide +kernel
theorem dX9_copyFrom_21 : decode cX9_copyFrom 21 = .ok (.putfield 37, 3) := by decide +kernel
theorem dX9_copyFrom_24 : decode cX9_copyFrom 24 = .ok (.aload_n 0, 1) := by decide +kernel
theorem dX9_copyFrom_25 : decode cX9_copyFrom 25 = .ok (.aload_n 1, 1) := by decide +kernel
theorem dX9_copyFrom_26 : decode cX9_copyFrom 26 = .ok (.getfield 40, 3) := by decide +kernel
theorem dX9_copyFrom_29 : decode cX9_copyFrom 29 = .ok (.putfield 40, 3) := by decide +kernel
theorem dX9_copyFrom_32 : decode cX9_copyFrom 32 = .ok (.aload_n 0, 1) := by decide +kernel
theorem dX9_copyFrom_33 : decode cX9_copyFrom 33 = .ok (.aload_n 1, 1) := by decide +kernel
theorem dX9_copyFrom_34 : decode cX9_copyFrom 34 = .ok (.getfield 43, 3) := by decide +kernel
theorem dX9_copyFrom_37 : decode cX9_copyFrom 37 = .ok (.putfield 43, 3) := by decide +kernel
theorem dX9_copyFrom_40 : decode cX9_copyFrom 40 = .ok (.aload_n 0, 1) := by decide +kernel
theorem dX9_copyFrom_41 : decode cX9_copyFrom 41 = .ok (.aload_n 1, 1) := by decide +kernel
theorem dX9_copyFrom_42 : decode cX9_copyFrom 42 = .ok (.getfield 49, 3) := by decide +kernel
theorem dX9_copyFrom_45 : decode cX9_copyFrom 45 = .ok (.putfield 49, 3) := by decide +kernel
theorem dX9_copyFrom_48 : decode cX9_copyFrom 48 = .ok (.aload_n 0, 1) := by decide +kernel
theorem dX9_copyFrom_49 : decode cX9_copyFrom 49 = .ok (.aload_n 1, 1) := by decide +kernel
theorem dX9_copyFrom_50 : decode cX9_copyFrom 50 = .ok (.getfield 52, 3) := by decide +kernel
theorem dX9_copyFrom_53 : decode cX9_copyFrom 53 = .ok (.putfield 52, 3) := by decide +kernel
theorem dX9_copyFrom_56 : decode cX9_copyFrom 56 = .ok (.aload_n 0, 1) := by decide +kernel
theorem dX9_copyFrom_57 : decode cX9_copyFrom 57 = .ok (.aload_n 1, 1) := by decide +kernel
theorem dX9_copyFrom_58 : decode cX9_copyFrom 58 = .ok (.getfield 46, 3) := by decide +kernel
theorem dX9_copyFrom_61 : decode cX9_copyFrom 61 = .ok (.putfield 46, 3) := by decide +kernel
theorem dX9_copyFrom_64 : decode cX9_copyFrom 64 = .ok (.aload_n 0, 1) := by decide +kernel
theorem dX9_copyFrom_65 : decode cX9_copyFrom 65 = .ok (.aload_n 1, 1) := by decide +kernel
theorem dX9_copyFrom_66 : decode cX9_copyFrom 66 = .ok (.getfield 31, 3) := by decide +kernel
theorem dX9_copyFrom_69 : decode cX9_copyFrom 69 = .ok (.putfield 31, 3) := by decide +kernel
theorem dX9_copyFrom_72 : decode cX9_copyFrom 72 = .ok (.aload_n 0, 1) := by decide +kernel
theorem dX9_copyFrom_73 : decode cX9_copyFrom 73 = .ok (.aload_n 1, 1) := by decide +kernel
theorem dX9_copyFrom_74 : decode cX9_copyFrom 74 = .ok (.getfield 34, 3) := by decide +kernel
theorem dX9_copyFrom_77 : decode cX9_copyFrom 77 = .ok (.putfield 34, 3) := by decide +kernel
theorem dX9_copyFrom_80 : decode cX9_copyFrom 80 = .ok (.aload_n 0, 1) := by decide +kernel
theorem dX9_copyFrom_81 : decode cX9_copyFrom 81 = .ok (.aload_n 1, 1) := by decide +kernel
theorem dX9_copyFrom_82 : decode cX9_copyFrom 82 = .ok (.getfield 19, 3) := by decide +kernel
theorem dX9_copyFrom_85 : decode cX9_copyFrom 85 = .ok (.putfield 19, 3) := by decide +kernel
theorem dX9_copyFrom_88 : decode cX9_copyFrom 88 = .ok (.aload_n 0, 1) := by decide +kernel
theorem dX9_copyFrom_89 : decode cX9_copyFrom 89 = .ok (.aload_n 1, 1) := by decide +kernel
theorem dX9_copyFrom_90 : decode cX9_copyFrom 90 = .ok (.getfield 22, 3) := by decide +kernel
theorem dX9_copyFrom_93 : decode cX9_copyFrom 93 = .ok (.putfield 22, 3) := by decide +kernel
theorem dX9_copyFrom_96 : decode cX9_copyFrom 96 = .ok (.aload_n 0, 1) := by decide +kernel
theorem dX9_copyFrom_97 : decode cX9_copyFrom 97 = .ok (.aload_n 1, 1) := by decide +kernel
theorem dX9_copyFrom_98 : decode cX9_copyFrom 98 = .ok (.getfield 25, 3) := by decide +kernel
theorem dX9_copyFrom_101 : decode cX9_copyFrom 101 = .ok (.putfield 25, 3) := by decide +kernel
theorem dX9_copyFrom_104 : decode cX9_copyFrom 104 = .ok (.return_, 1) := by decide +kernel
theorem dX10_init_0 : decode cX10_init 0 = .ok (.aload_n 0, 1) := by decide +kernel
theorem dX10_init_1 : decode cX10_init 1 = .ok (.invokespecial 1, 3) := by decide +kernel
theorem dX10_init_4 : decode cX10_init 4 = .ok (.aload_n 0, 1) := by decide +kernel
theorem dX10_init_5 : decode cX10_init 5 = .ok (.new 7, 3) := by decide +kernel
theorem dX10_init_8 : decode cX10_init 8 = .ok (.dup, 1) := by decide +kernel
theorem dX10_init_9 : decode cX10_init 9 = .ok (.invokespecial 9, 3) := by decide +kernel
theorem dX10_init_12 : decode cX10_init 12 = .ok (.putfield 10, 3) := by decide +kernel
theorem dX10_init_15 : decode cX10_init 15 = .ok (.aload_n 0, 1) := by decide +kernel
theorem dX10_init_16 : decode cX10_init 16 = .ok (.new 7, 3) := by decide +kernel
theorem dX10_init_19 : decode cX10_init 19 = .ok (.dup, 1) := by decide +kernel
theorem dX10_init_20 : decode cX10_init 20 = .ok (.invokespecial 9, 3) := by decide +kernel
theorem dX10_init_23 : decode cX10_init 23 = .ok (.putfield 16, 3) := by decide +kernel
theorem dX10_init_26 : decode cX10_init 26 = .ok (.aload_n 0, 1) := by decide +kernel
theorem dX10_init_27 : decode cX10_init 27 = .ok (.bipush 6, 2) := by decide +kernel
theorem dX10_init_29 : decode cX10_init 29 = .ok (.anewarray 7, 3) := by decide +kernel
theorem dX10_init_32 : decode cX10_init 32 = .ok (.putfield 19, 3) := by decide +kernel
theorem dX10_init_35 : decode cX10_init 35 = .ok (.aload_n 0, 1) := by decide +kernel
theorem dX10_init_36 : decode cX10_init 36 = .ok (.new 23, 3) := by decide +kernel
theorem dX10_init_39 : decode cX10_init 39 = .ok (.dup, 1) := by decide +kernel
theorem dX10_init_40 : decode cX10_init 40 = .ok (.invokespecial 25, 3) := by decide +kernel
theorem dX10_init_43 : decode cX10_init 43 = .ok (.putfield 26, 3) := by decide +kernel
theorem dX10_init_46 : decode cX10_init 46 = .ok (.aload_n 0, 1) := by decide +kernel
theorem dX10_init_47 : decode cX10_init 47 = .ok (.new 23, 3) := by decide +kernel
theorem dX10_init_50 : decode cX10_init 50 = .ok (.dup, 1) := by decide +kernel
theorem dX10_init_51 : decode cX10_init 51 = .ok (.invokespecial 25, 3) := by decide +kernel
theorem dX10_init_54 : decode cX10_init 54 = .ok (.putfield 30, 3) := by decide +kernel
theorem dX10_init_57 : decode cX10_init 57 = .ok (.aload_n 0, 1) := by decide +kernel
theorem dX10_init_58 : decode cX10_init 58 = .ok (.new 33, 3) := by decide +kernel
theorem dX10_init_61 : decode cX10_init 61 = .ok (.dup, 1) := by decide +kernel
theorem dX10_init_62 : decode cX10_init 62 = .ok (.invokespecial 35, 3) := by decide +kernel
theorem dX10_init_65 : decode cX10_init 65 = .ok (.putfield 36, 3) := by decide +kernel
theorem dX10_init_68 : decode cX10_init 68 = .ok (.aload_n 0, 1) := by decide +kernel
theorem dX10_init_69 : decode cX10_init 69 = .ok (.new 40, 3) := by decide +kernel
theorem dX10_init_72 : decode cX10_init 72 = .ok (.dup, 1) := by decide +kernel
theorem dX10_init_73 : decode cX10_init 73 = .ok (.invokespecial 42, 3) := by decide +kernel
theorem dX10_init_76 : decode cX10_init 76 = .ok (.putfield 43, 3) := by decide +kernel
theorem dX10_init_79 : decode cX10_init 79 = .ok (.aload_n 0, 1) := by decide +kernel
theorem dX10_init_80 : decode cX10_init 80 = .ok (.new 47, 3) := by decide +kernel
theorem dX10_init_83 : decode cX10_init 83 = .ok (.dup, 1) := by decide +kernel
theorem dX10_init_84 : decode cX10_init 84 = .ok (.invokespecial 49, 3) := by decide +kernel
theorem dX10_init_87 : decode cX10_init 87 = .ok (.putfield 50, 3) := by decide +kernel
theorem dX10_init_90 : decode cX10_init 90 = .ok (.aload_n 0, 1) := by decide +kernel
theorem dX10_init_91 : decode cX10_init 91 = .ok (.new 54, 3) := by decide +kernel
theorem dX10_init_94 : decode cX10_init 94 = .ok (.dup, 1) := by decide +kernel
theorem dX10_init_95 : decode cX10_init 95 = .ok (.aload_n 0, 1) := by decide +kernel
theorem dX10_init_96 : decode cX10_init 96 = .ok (.getfield 10, 3) := by decide +kernel
theorem dX10_init_99 : decode cX10_init 99 = .ok (.aload_n 0, 1) := by decide +kernel
theorem dX10_init_100 : decode cX10_init 100 = .ok (.getfield 26, 3) := by decide +kernel
theorem dX10_init_103 : decode cX10_init 103 = .ok (.aload_n 0, 1) := by decide +kernel
theorem dX10_init_104 : decode cX10_init 104 = .ok (.getfield 36, 3) := by decide +kernel
theorem dX10_init_107 : decode cX10_init 107 = .ok (.invokespecial 56, 3) := by decide +kernel
theorem dX10_init_110 : decode cX10_init 110 = .ok (.putfield 59, 3) := by decide +kernel
theorem dX10_init_113 : decode cX10_init 113 = .ok (.aload_n 0, 1) := by decide +kernel
theorem dX10_init_114 : decode cX10_init 114 = .ok (.new 63, 3) := by decide +kernel
theorem dX10_init_117 : decode cX10_init 117 = .ok (.dup, 1) := by decide +kernel
theorem dX10_init_118 : decode cX10_init 118 = .ok (.aload_n 0, 1) := by decide +kernel
theorem dX10_init_119 : decode cX10_init 119 = .ok (.getfield 10, 3) := by decide +kernel
theorem dX10_init_122 : decode cX10_init 122 = .ok (.getfield 65, 3) := by decide +kernel
theorem dX10_init_125 : decode cX10_init 125 = .ok (.invokespecial 69, 3) := by decide +kernel
theorem dX10_init_128 : decode cX10_init 128 = .ok (.putfield 72, 3) := by decide +kernel
theorem dX10_init_131 : decode cX10_init 131 = .ok (.aload_n 0, 1) := by decide +kernel
theorem dX10_init_132 : decode cX10_init 132 = .ok (.new 76, 3) := by decide +kernel
theorem dX10_init_135 : decode cX10_init 135 = .ok (.dup, 1) := by decide +kernel
theorem dX10_init_136 : decode cX10_init 136 = .ok (.invokespecial 78, 3) := by decide +kernel
theorem dX10_init_139 : decode cX10_init 139 = .ok (.putfield 79, 3) := by decide +kernel
theorem dX10_init_142 : decode cX10_init 142 = .ok (.aload_n 0, 1) := by decide +kernel
theorem dX10_init_143 : decode cX10_init 143 = .ok (.new 7, 3) := by decide +kernel
theorem dX10_init_146 : decode cX10_init 146 = .ok (.dup, 1) := by decide +kernel
theorem dX10_init_147 : decode cX10_init 147 = .ok (.invokespecial 9, 3) := by decide +kernel
theorem dX10_init_150 : decode cX10_init 150 = .ok (.putfield 83, 3) := by decide +kernel
theorem dX10_init_153 : decode cX10_init 153 = .ok (.aload_n 0, 1) := by decide +kernel
theorem dX10_init_154 : decode cX10_init 154 = .ok (.new 23, 3) := by decide +kernel
theorem dX10_init_157 : decode cX10_init 157 = .ok (.dup, 1) := by decide +kernel
theorem dX10_init_158 : decode cX10_init 158 = .ok (.invokespecial 25, 3) := by decide +kernel
theorem dX10_init_161 : decode cX10_init 161 = .ok (.putfield 86, 3) := by decide +kernel
theorem dX10_init_164 : decode cX10_init 164 = .ok (.aload_n 0, 1) := by decide +kernel
theorem dX10_init_165 : decode cX10_init 165 = .ok (.new 33, 3) := by decide +kernel
theorem dX10_init_168 : decode cX10_init 168 = .ok (.dup, 1) := by decide +kernel
theorem dX10_init_169 : decode cX10_init 169 = .ok (.invokespecial 35, 3) := by decide +kernel
theorem dX10_init_172 : decode cX10_init 172 = .ok (.putfield 89, 3) := by decide +kernel
theorem dX10_init_175 : decode cX10_init 175 = .ok (.aload_n 0, 1) := by decide +kernel
theorem dX10_init_176 : decode cX10_init 176 = .ok (.new 40, 3) := by decide +kernel
theorem dX10_init_179 : decode cX10_init 179 = .ok (.dup, 1) := by decide +kernel
theorem dX10_init_180 : decode cX10_init 180 = .ok (.invokespecial 42, 3) := by decide +kernel
theorem dX10_init_183 : decode cX10_init 183 = .ok (.putfield 92, 3) := by decide +kernel
theorem dX10_init_186 : decode cX10_init 186 = .ok (.iconst 0, 1) := by decide +kernel
theorem dX10_init_187 : decode cX10_init 187 = .ok (.istore_n 1, 1) := by decide +kernel
theorem dX10_init_188 : decode cX10_init 188 = .ok (.iload_n 1, 1) := by decide +kernel
theorem dX10_init_189 : decode cX10_init 189 = .ok (.bipush 6, 2) := by decide +kernel
theorem dX10_init_191 : decode cX10_init 191 = .ok (.if_icmp .ge 22, 3) := by decide +kernel
theorem dX10_init_194 : decode cX10_init 194 = .ok (.aload_n 0, 1) := by decide +kernel
theorem dX10_init_195 : decode cX10_init 195 = .ok (.getfield 19, 3) := by decide +kernel
theorem dX10_init_198 : decode cX10_init 198 = .ok (.iload_n 1, 1) := by decide +kernel
theorem dX10_init_199 : decode cX10_init 199 = .ok (.new 7, 3) := by decide +kernel
theorem dX10_init_202 : decode cX10_init 202 = .ok (.dup, 1) := by decide +kernel
theorem dX10_init_203 : decode cX10_init 203 = .ok (.invokespecial 9, 3) := by decide +kernel
theorem dX10_init_206 : decode cX10_init 206 = .ok (.aastore, 1) := by decide +kernel
theorem dX10_init_207 : decode cX10_init 207 = .ok (.iinc 1 1, 3) := by decide +kernel
theorem dX10_init_210 : decode cX10_init 210 = .ok (.goto (-22), 3) := by decide +kernel
theorem dX10_init_213 : decode cX10_init 213 = .ok (.return_, 1) := by decide +kernel
theorem dX10_state_0 : decode cX10_state 0 = .ok (.aload_n 0, 1) := by decide +kernel
theorem dX10_state_1 : decode cX10_state 1 = .ok (.getfield 10, 3) := by decide +kernel
theorem dX10_state_4 : decode cX10_state 4 = .ok (.getfield 95, 3) := by decide +kernel
theorem dX10_state_7 : decode cX10_state 7 = .ok (.istore_n 2, 1) := by decide +kernel
theorem dX10_state_8 : decode cX10_state 8 = .ok (.aload_n 0, 1) := by decide +kernel
theorem dX10_state_9 : decode cX10_state 9 = .ok (.getfield 10, 3) := by decide +kernel
theorem dX10_state_12 : decode cX10_state 12 = .ok (.iload_n 1, 1) := by decide +kernel
theorem dX10_state_13 : decode cX10_state 13 = .ok (.putfield 95, 3) := by decide +kernel
theorem dX10_state_16 : decode cX10_state 16 = .ok (.aload_n 0, 1) := by decide +kernel
theorem dX10_state_17 : decode cX10_state 17 = .ok (.invokevirtual 99, 3) := by decide +kernel
theorem dX10_state_20 : decode cX10_state 20 = .ok (.iload_n 2, 1) := by decide +kernel
theorem dX10_state_21 : decode cX10_state 21 = .ok (.ireturn, 1) := by decide +kernel
theorem dX10_walker_0 : decode cX10_walker 0 = .ok (.iload_n 1, 1) := by decide +kernel
theorem dX10_walker_1 : decode cX10_walker 1 = .ok (.ifCond .lt 21, 3) := by decide +kernel
theorem dX10_walker_4 : decode cX10_walker 4 = .ok (.iload_n 1, 1) := by decide +kernel
theorem dX10_walker_5 : decode cX10_walker 5 = .ok (.bipush 9, 2) := by decide +kernel
theorem dX10_walker_7 : decode cX10_walker 7 = .ok (.if_icmp .gt 15, 3) := by decide +kernel
theorem dX10_walker_10 : decode cX10_walker 10 = .ok (.aload_n 0, 1) := by decide +kernel
theorem dX10_walker_11 : decode cX10_walker 11 = .ok (.getfield 10, 3) := by decide +kernel
theorem dX10_walker_14 : decode cX10_walker 14 = .ok (.getfield 102, 3) := by decide +kernel
theorem dX10_walker_17 : decode cX10_walker 17 = .ok (.bipush 16, 2) := by decide +kernel
theorem dX10_walker_19 : decode cX10_walker 19 = .ok (.if_icmp .lt 5, 3) := by decide +kernel
theorem dX10_walker_22 : decode cX10_walker 22 = .ok (.iconst (-1), 1) := by decide +kernel
theorem dX10_walker_23 : decode cX10_walker 23 = .ok (.ireturn, 1) := by decide +kernel
theorem dX10_walker_24 : decode cX10_walker 24 = .ok (.aload_n 0, 1) := by decide +kernel
theorem dX10_walker_25 : decode cX10_walker 25 = .ok (.getfield 10, 3) := by decide +kernel
theorem dX10_walker_28 : decode cX10_walker 28 = .ok (.getfield 102, 3) := by decide +kernel
theorem dX10_walker_31 : decode cX10_walker 31 = .ok (.istore_n 2, 1) := by decide +kernel
theorem dX10_walker_32 : decode cX10_walker 32 = .ok (.aload_n 0, 1) := by decide +kernel
theorem dX10_walker_33 : decode cX10_walker 33 = .ok (.getfield 10, 3) := by decide +kernel
theorem dX10_walker_36 : decode cX10_walker 36 = .ok (.getfield 105, 3) := by decide +kernel
theorem dX10_walker_39 : decode cX10_walker 39 = .ok (.iload_n 2, 1) := by decide +kernel
theorem dX10_walker_40 : decode cX10_walker 40 = .ok (.aaload, 1) := by decide +kernel
theorem dX10_walker_41 : decode cX10_walker 41 = .ok (.iload_n 1, 1) := by decide +kernel
theorem dX10_walker_42 : decode cX10_walker 42 = .ok (.invokevirtual 109, 3) := by decide +kernel
theorem dX10_walker_45 : decode cX10_walker 45 = .ok (.aload_n 0, 1) := by decide +kernel
theorem dX10_walker_46 : decode cX10_walker 46 = .ok (.getfield 10, 3) := by decide +kernel
theorem dX10_walker_49 : decode cX10_walker 49 = .ok (.dup, 1) := by decide +kernel
theorem dX10_walker_50 : decode cX10_walker 50 = .ok (.getfield 102, 3) := by decide +kernel
theorem dX10_walker_53 : decode cX10_walker 53 = .ok (.iconst 1, 1) := by decide +kernel
theorem dX10_walker_54 : decode cX10_walker 54 = .ok (.iadd, 1) := by decide +kernel
theorem dX10_walker_55 : decode cX10_walker 55 = .ok (.putfield 102, 3) := by decide +kernel
theorem dX10_walker_58 : decode cX10_walker 58 = .ok (.aload_n 0, 1) := by decide +kernel
theorem dX10_walker_59 : decode cX10_walker 59 = .ok (.invokevirtual 99, 3) := by decide +kernel
theorem dX10_walker_62 : decode cX10_walker 62 = .ok (.iload_n 2, 1) := by decide +kernel
theorem dX10_walker_63 : decode cX10_walker 63 = .ok (.ireturn, 1) := by decide +kernel
theorem dX10_comes_0 : decode cX10_comes 0 = .ok (.aload_n 0, 1) := by decide +kernel
theorem dX10_comes_1 : decode cX10_comes 1 = .ok (.getfield 10, 3) := by decide +kernel
theorem dX10_comes_4 : decode cX10_comes 4 = .ok (.iload_n 1, 1) := by decide +kernel
theorem dX10_comes_5 : decode cX10_comes 5 = .ok (.invokevirtual 115, 3) := by decide +kernel
theorem dX10_comes_8 : decode cX10_comes 8 = .ok (.ifCond .eq 34, 3) := by decide +kernel
theorem dX10_comes_11 : decode cX10_comes 11 = .ok (.aload_n 0, 1) := by decide +kernel
theorem dX10_comes_12 : decode cX10_comes 12 = .ok (.getfield 10, 3) := by decide +kernel
theorem dX10_comes_15 : decode cX10_comes 15 = .ok (.getfield 105, 3) := by decide +kernel
theorem dX10_comes_18 : decode cX10_comes 18 = .ok (.iload_n 1, 1) := by decide +kernel
theorem dX10_comes_19 : decode cX10_comes 19 = .ok (.aaload, 1) := by decide +kernel
theorem dX10_comes_20 : decode cX10_comes 20 = .ok (.getfield 119, 3) := by decide +kernel
theorem dX10_comes_23 : decode cX10_comes 23 = .ok (.ifCond .ne 19, 3) := by decide +kernel
theorem dX10_comes_26 : decode cX10_comes 26 = .ok (.iload_n 2, 1) := by decide +kernel
theorem dX10_comes_27 : decode cX10_comes 27 = .ok (.ifCond .lt 15, 3) := by decide +kernel
theorem dX10_comes_30 : decode cX10_comes 30 = .ok (.iload_n 2, 1) := by decide +kernel
theorem dX10_comes_31 : decode cX10_comes 31 = .ok (.iconst 3, 1) := by decide +kernel
theorem dX10_comes_32 : decode cX10_comes 32 = .ok (.if_icmp .gt 10, 3) := by decide +kernel
theorem dX10_comes_35 : decode cX10_comes 35 = .ok (.iload_n 3, 1) := by decide +kernel
theorem dX10_comes_36 : decode cX10_comes 36 = .ok (.invokestatic 123, 3) := by decide +kernel
theorem dX10_comes_39 : decode cX10_comes 39 = .ok (.ifCond .ne 5, 3) := by decide +kernel
theorem dX10_comes_42 : decode cX10_comes 42 = .ok (.iconst 0, 1) := by decide +kernel
theorem dX10_comes_43 : decode cX10_comes 43 = .ok (.ireturn, 1) := by decide +kernel
theorem dX10_comes_44 : decode cX10_comes 44 = .ok (.iload_n 2, 1) := by decide +kernel
theorem dX10_comes_45 : decode cX10_comes 45 = .ok (.iload_n 3, 1) := by decide +kernel
theorem dX10_comes_46 : decode cX10_comes 46 = .ok (.invokestatic 126, 3) := by decide +kernel
theorem dX10_comes_49 : decode cX10_comes 49 = .ok (.istore 4, 2) := by decide +kernel
theorem dX10_comes_51 : decode cX10_comes 51 = .ok (.aload_n 0, 1) := by decide +kernel
theorem dX10_comes_52 : decode cX10_comes 52 = .ok (.getfield 10, 3) := by decide +kernel
theorem dX10_comes_55 : decode cX10_comes 55 = .ok (.getfield 65, 3) := by decide +kernel
theorem dX10_comes_58 : decode cX10_comes 58 = .ok (.iload 4, 2) := by decide +kernel
theorem dX10_comes_60 : decode cX10_comes 60 = .ok (.iaload, 1) := by decide +kernel
theorem dX10_comes_61 : decode cX10_comes 61 = .ok (.iconst 1, 1) := by decide +kernel
theorem dX10_comes_62 : decode cX10_comes 62 = .ok (.if_icmp .eq 16, 3) := by decide +kernel
theorem dX10_comes_65 : decode cX10_comes 65 = .ok (.aload_n 0, 1) := by decide +kernel
theorem dX10_comes_66 : decode cX10_comes 66 = .ok (.getfield 10, 3) := by decide +kernel
theorem dX10_comes_69 : decode cX10_comes 69 = .ok (.iload 4, 2) := by decide +kernel
theorem dX10_comes_71 : decode cX10_comes 71 = .ok (.invokevirtual 130, 3) := by decide +kernel
theorem dX10_comes_74 : decode cX10_comes 74 = .ok (.iconst (-1), 1) := by decide +kernel
theorem dX10_comes_75 : decode cX10_comes 75 = .ok (.if_icmp .eq 5, 3) := by decide +kernel
theorem dX10_comes_78 : decode cX10_comes 78 = .ok (.iconst 0, 1) := by decide +kernel
theorem dX10_comes_79 : decode cX10_comes 79 = .ok (.ireturn, 1) := by decide +kernel
theorem dX10_comes_80 : decode cX10_comes 80 = .ok (.aload_n 0, 1) := by decide +kernel
theorem dX10_comes_81 : decode cX10_comes 81 = .ok (.invokevirtual 134, 3) := by decide +kernel
theorem dX10_comes_84 : decode cX10_comes 84 = .ok (.aload_n 0, 1) := by decide +kernel
theorem dX10_comes_85 : decode cX10_comes 85 = .ok (.getfield 10, 3) := by decide +kernel
theorem dX10_comes_88 : decode cX10_comes 88 = .ok (.getfield 105, 3) := by decide +kernel
theorem dX10_comes_91 : decode cX10_comes 91 = .ok (.iload_n 1, 1) := by decide +kernel
theorem dX10_comes_92 : decode cX10_comes 92 = .ok (.aaload, 1) := by decide +kernel
theorem dX10_comes_93 : decode cX10_comes 93 = .ok (.iload_n 2, 1) := by decide +kernel
theorem dX10_comes_94 : decode cX10_comes 94 = .ok (.iload 4, 2) := by decide +kernel
theorem dX10_comes_96 : decode cX10_comes 96 = .ok (.invokevirtual 137, 3) := by decide +kernel
theorem dX10_comes_99 : decode cX10_comes 99 = .ok (.aload_n 0, 1) := by decide +kernel
theorem dX10_comes_100 : decode cX10_comes 100 = .ok (.getfield 36, 3) := by decide +kernel
theorem dX10_comes_103 : decode cX10_comes 103 = .ok (.aload_n 0, 1) := by decide +kernel
theorem dX10_comes_104 : decode cX10_comes 104 = .ok (.getfield 10, 3) := by decide +kernel
theorem dX10_comes_107 : decode cX10_comes 107 = .ok (.iconst 0, 1) := by decide +kernel
theorem dX10_comes_108 : decode cX10_comes 108 = .ok (.iload_n 1, 1) := by decide +kernel
theorem dX10_comes_109 : decode cX10_comes 109 = .ok (.iload 4, 2) := by decide +kernel
theorem dX10_comes_111 : decode cX10_comes 111 = .ok (.invokevirtual 141, 3) := by decide +kernel
theorem dX10_comes_114 : decode cX10_comes 114 = .ok (.iconst 1, 1) := by decide +kernel
theorem dX10_comes_115 : decode cX10_comes 115 = .ok (.ireturn, 1) := by decide +kernel
theorem dX10_turn_0 : decode cX10_turn 0 = .ok (.aload_n 0, 1) := by decide +kernel
theorem dX10_turn_1 : decode cX10_turn 1 = .ok (.getfield 10, 3) := by decide +kernel
theorem dX10_turn_4 : decode cX10_turn 4 = .ok (.iload_n 1, 1) := by decide +kernel
theorem dX10_turn_5 : decode cX10_turn 5 = .ok (.invokevirtual 145, 3) := by decide +kernel
theorem dX10_turn_8 : decode cX10_turn 8 = .ok (.ifCond .eq 12, 3) := by decide +kernel
theorem dX10_turn_11 : decode cX10_turn 11 = .ok (.iload_n 2, 1) := by decide +kernel
theorem dX10_turn_12 : decode cX10_turn 12 = .ok (.ifCond .lt 8, 3) := by decide +kernel
theorem dX10_turn_15 : decode cX10_turn 15 = .ok (.iload_n 2, 1) := by decide +kernel
theorem dX10_turn_16 : decode cX10_turn 16 = .ok (.iconst 2, 1) := by decide +kernel
theorem dX10_turn_17 : decode cX10_turn 17 = .ok (.if_icmp .le 5, 3) := by decide +kernel
theorem dX10_turn_20 : decode cX10_turn 20 = .ok (.iconst 0, 1) := by decide +kernel
theorem dX10_turn_21 : decode cX10_turn 21 = .ok (.ireturn, 1) := by decide +kernel
theorem dX10_turn_22 : decode cX10_turn 22 = .ok (.aload_n 0, 1) := by decide +kernel
theorem dX10_turn_23 : decode cX10_turn 23 = .ok (.invokevirtual 134, 3) := by decide +kernel
theorem dX10_turn_26 : decode cX10_turn 26 = .ok (.aload_n 0, 1) := by decide +kernel
theorem dX10_turn_27 : decode cX10_turn 27 = .ok (.getfield 59, 3) := by decide +kernel
theorem dX10_turn_30 : decode cX10_turn 30 = .ok (.iload_n 1, 1) := by decide +kernel
theorem dX10_turn_31 : decode cX10_turn 31 = .ok (.iload_n 2, 1) := by decide +kernel
theorem dX10_turn_32 : decode cX10_turn 32 = .ok (.invokevirtual 148, 3) := by decide +kernel
theorem dX10_turn_35 : decode cX10_turn 35 = .ok (.iconst 1, 1) := by decide +kernel
theorem dX10_turn_36 : decode cX10_turn 36 = .ok (.ireturn, 1) := by decide +kernel
theorem dX10_lay_0 : decode cX10_lay 0 = .ok (.iload_n 1, 1) := by decide +kernel
theorem dX10_lay_1 : decode cX10_lay 1 = .ok (.invokestatic 123, 3) := by decide +kernel
theorem dX10_lay_4 : decode cX10_lay 4 = .ok (.ifCond .eq 19, 3) := by decide +kernel
theorem dX10_lay_7 : decode cX10_lay 7 = .ok (.iload_n 2, 1) := by decide +kernel
theorem dX10_lay_8 : decode cX10_lay 8 = .ok (.invokestatic 123, 3) := by decide +kernel
theorem dX10_lay_11 : decode cX10_lay 11 = .ok (.ifCond .eq 12, 3) := by decide +kernel
theorem dX10_lay_14 : decode cX10_lay 14 = .ok (.iload_n 3, 1) := by decide +kernel
theorem dX10_lay_15 : decode cX10_lay 15 = .ok (.ifCond .lt 8, 3) := by decide +kernel
theorem dX10_lay_18 : decode cX10_lay 18 = .ok (.iload_n 3, 1) := by decide +kernel
theorem dX10_lay_19 : decode cX10_lay 19 = .ok (.iconst 3, 1) := by decide +kernel
theorem dX10_lay_20 : decode cX10_lay 20 = .ok (.if_icmp .le 5, 3) := by decide +kernel
theorem dX10_lay_23 : decode cX10_lay 23 = .ok (.iconst 0, 1) := by decide +kernel
theorem dX10_lay_24 : decode cX10_lay 24 = .ok (.ireturn, 1) := by decide +kernel
theorem dX10_lay_25 : decode cX10_lay 25 = .ok (.bipush 12, 2) := by decide +kernel
theorem dX10_lay_27 : decode cX10_lay 27 = .ok (.iload_n 2, 1) := by decide +kernel
theorem dX10_lay_28 : decode cX10_lay 28 = .ok (.imul, 1) := by decide +kernel
theorem dX10_lay_29 : decode cX10_lay 29 = .ok (.iload_n 1, 1) := by decide +kernel
theorem dX10_lay_30 : decode cX10_lay 30 = .ok (.iadd, 1) := by decide +kernel
theorem dX10_lay_31 : decode cX10_lay 31 = .ok (.istore 4, 2) := by decide +kernel
theorem dX10_lay_33 : decode cX10_lay 33 = .ok (.aload_n 0, 1) := by decide +kernel
theorem dX10_lay_34 : decode cX10_lay 34 = .ok (.getfield 10, 3) := by decide +kernel
theorem dX10_lay_37 : decode cX10_lay 37 = .ok (.getfield 65, 3) := by decide +kernel
theorem dX10_lay_40 : decode cX10_lay 40 = .ok (.iload 4, 2) := by decide +kernel
theorem dX10_lay_42 : decode cX10_lay 42 = .ok (.iaload, 1) := by decide +kernel
theorem dX10_lay_43 : decode cX10_lay 43 = .ok (.iload_n 3, 1) := by decide +kernel
theorem dX10_lay_44 : decode cX10_lay 44 = .ok (.if_icmp .eq 21, 3) := by decide +kernel
theorem dX10_lay_47 : decode cX10_lay 47 = .ok (.iload_n 3, 1) := by decide +kernel
theorem dX10_lay_48 : decode cX10_lay 48 = .ok (.iconst 1, 1) := by decide +kernel
theorem dX10_lay_49 : decode cX10_lay 49 = .ok (.if_icmp .ne 18, 3) := by decide +kernel
theorem dX10_lay_52 : decode cX10_lay 52 = .ok (.aload_n 0, 1) := by decide +kernel
theorem dX10_lay_53 : decode cX10_lay 53 = .ok (.getfield 10, 3) := by decide +kernel
theorem dX10_lay_56 : decode cX10_lay 56 = .ok (.iload 4, 2) := by decide +kernel
theorem dX10_lay_58 : decode cX10_lay 58 = .ok (.invokevirtual 130, 3) := by decide +kernel
theorem dX10_lay_61 : decode cX10_lay 61 = .ok (.iconst (-1), 1) := by decide +kernel
theorem dX10_lay_62 : decode cX10_lay 62 = .ok (.if_icmp .eq 5, 3) := by decide +kernel
theorem dX10_lay_65 : decode cX10_lay 65 = .ok (.iconst 0, 1) := by decide +kernel
theorem dX10_lay_66 : decode cX10_lay 66 = .ok (.ireturn, 1) := by decide +kernel
theorem dX10_lay_67 : decode cX10_lay 67 = .ok (.aload_n 0, 1) := by decide +kernel
theorem dX10_lay_68 : decode cX10_lay 68 = .ok (.invokevirtual 134, 3) := by decide +kernel
theorem dX10_lay_71 : decode cX10_lay 71 = .ok (.aload_n 0, 1) := by decide +kernel
theorem dX10_lay_72 : decode cX10_lay 72 = .ok (.getfield 10, 3) := by decide +kernel
theorem dX10_lay_75 : decode cX10_lay 75 = .ok (.getfield 65, 3) := by decide +kernel
theorem dX10_lay_78 : decode cX10_lay 78 = .ok (.iload 4, 2) := by decide +kernel
theorem dX10_lay_80 : decode cX10_lay 80 = .ok (.iload_n 3, 1) := by decide +kernel
theorem dX10_lay_81 : decode cX10_lay 81 = .ok (.iastore, 1) := by decide +kernel
theorem dX10_lay_82 : decode cX10_lay 82 = .ok (.iconst 1, 1) := by decide +kernel
theorem dX10_lay_83 : decode cX10_lay 83 = .ok (.ireturn, 1) := by decide +kernel
theorem dX10_minutes_0 : decode cX10_minutes 0 = .ok (.iload_n 1, 1) := by decide +kernel
theorem dX10_minutes_1 : decode cX10_minutes 1 = .ok (.iconst 1, 1) := by decide +kernel
theorem dX10_minutes_2 : decode cX10_minutes 2 = .ok (.if_icmp .lt 24, 3) := by decide +kernel
theorem dX10_minutes_5 : decode cX10_minutes 5 = .ok (.iload_n 1, 1) := by decide +kernel
theorem dX10_minutes_6 : decode cX10_minutes 6 = .ok (.bipush 60, 2) := by decide +kernel
theorem dX10_minutes_8 : decode cX10_minutes 8 = .ok (.if_icmp .gt 18, 3) := by decide +kernel
theorem dX10_minutes_11 : decode cX10_minutes 11 = .ok (.aload_n 0, 1) := by decide +kernel
theorem dX10_minutes_12 : decode cX10_minutes 12 = .ok (.getfield 10, 3) := by decide +kernel
theorem dX10_minutes_15 : decode cX10_minutes 15 = .ok (.getfield 151, 3) := by decide +kernel
theorem dX10_minutes_18 : decode cX10_minutes 18 = .ok (.iload_n 1, 1) := by decide +kernel
theorem dX10_minutes_19 : decode cX10_minutes 19 = .ok (.iadd, 1) := by decide +kernel
theorem dX10_minutes_20 : decode cX10_minutes 20 = .ok (.sipush 9999, 3) := by decide +kernel
theorem dX10_minutes_23 : decode cX10_minutes 23 = .ok (.if_icmp .le 5, 3) := by decide +kernel
theorem dX10_minutes_26 : decode cX10_minutes 26 = .ok (.iconst (-1), 1) := by decide +kernel
theorem dX10_minutes_27 : decode cX10_minutes 27 = .ok (.ireturn, 1) := by decide +kernel
theorem dX10_minutes_28 : decode cX10_minutes 28 = .ok (.aload_n 0, 1) := by decide +kernel
theorem dX10_minutes_29 : decode cX10_minutes 29 = .ok (.getfield 59, 3) := by decide +kernel
theorem dX10_minutes_32 : decode cX10_minutes 32 = .ok (.iconst 0, 1) := by decide +kernel
theorem dX10_minutes_33 : decode cX10_minutes 33 = .ok (.putfield 154, 3) := by decide +kernel
theorem dX10_minutes_36 : decode cX10_minutes 36 = .ok (.iconst 0, 1) := by decide +kernel
theorem dX10_minutes_37 : decode cX10_minutes 37 = .ok (.istore_n 2, 1) := by decide +kernel
theorem dX10_minutes_38 : decode cX10_minutes 38 = .ok (.iload_n 2, 1) := by decide +kernel
theorem dX10_minutes_39 : decode cX10_minutes 39 = .ok (.iload_n 1, 1) := by decide +kernel
theorem dX10_minutes_40 : decode cX10_minutes 40 = .ok (.if_icmp .ge 20, 3) := by decide +kernel
theorem dX10_minutes_43 : decode cX10_minutes 43 = .ok (.aload_n 0, 1) := by decide +kernel
theorem dX10_minutes_44 : decode cX10_minutes 44 = .ok (.invokevirtual 134, 3) := by decide +kernel
theorem dX10_minutes_47 : decode cX10_minutes 47 = .ok (.aload_n 0, 1) := by decide +kernel
theorem dX10_minutes_48 : decode cX10_minutes 48 = .ok (.getfield 59, 3) := by decide +kernel
theorem dX10_minutes_51 : decode cX10_minutes 51 = .ok (.invokevirtual 157, 3) := by decide +kernel
theorem dX10_minutes_54 : decode cX10_minutes 54 = .ok (.iinc 2 1, 3) := by decide +kernel
theorem dX10_minutes_57 : decode cX10_minutes 57 = .ok (.goto (-19), 3) := by decide +kernel
theorem dX10_minutes_60 : decode cX10_minutes 60 = .ok (.aload_n 0, 1) := by decide +kernel
theorem dX10_minutes_61 : decode cX10_minutes 61 = .ok (.getfield 59, 3) := by decide +kernel
theorem dX10_minutes_64 : decode cX10_minutes 64 = .ok (.getfield 154, 3) := by decide +kernel
theorem dX10_minutes_67 : decode cX10_minutes 67 = .ok (.ireturn, 1) := by decide +kernel
theorem dX10_feed_0 : decode cX10_feed 0 = .ok (.aload_n 0, 1) := by decide +kernel
theorem dX10_feed_1 : decode cX10_feed 1 = .ok (.getfield 50, 3) := by decide +kernel
theorem dX10_feed_4 : decode cX10_feed 4 = .ok (.getfield 160, 3) := by decide +kernel
theorem dX10_feed_7 : decode cX10_feed 7 = .ok (.bipush 20, 2) := by decide +kernel
theorem dX10_feed_9 : decode cX10_feed 9 = .ok (.iadd, 1) := by decide +kernel
theorem dX10_feed_10 : decode cX10_feed 10 = .ok (.sipush 400, 3) := by decide +kernel
theorem dX10_feed_13 : decode cX10_feed 13 = .ok (.if_icmp .le 5, 3) := by decide +kernel
theorem dX10_feed_16 : decode cX10_feed 16 = .ok (.iconst (-1), 1) := by decide +kernel
theorem dX10_feed_17 : decode cX10_feed 17 = .ok (.ireturn, 1) := by decide +kernel
theorem dX10_feed_18 : decode cX10_feed 18 = .ok (.aload_n 0, 1) := by decide +kernel
theorem dX10_feed_19 : decode cX10_feed 19 = .ok (.getfield 50, 3) := by decide +kernel
theorem dX10_feed_22 : decode cX10_feed 22 = .ok (.iload_n 1, 1) := by decide +kernel
theorem dX10_feed_23 : decode cX10_feed 23 = .ok (.invokevirtual 163, 3) := by decide +kernel
theorem dX10_feed_26 : decode cX10_feed 26 = .ok (.aload_n 0, 1) := by decide +kernel
theorem dX10_feed_27 : decode cX10_feed 27 = .ok (.getfield 50, 3) := by decide +kernel
theorem dX10_feed_30 : decode cX10_feed 30 = .ok (.iload_n 2, 1) := by decide +kernel
theorem dX10_feed_31 : decode cX10_feed 31 = .ok (.invokevirtual 163, 3) := by decide +kernel
theorem dX10_feed_34 : decode cX10_feed 34 = .ok (.aload_n 0, 1) := by decide +kernel
theorem dX10_feed_35 : decode cX10_feed 35 = .ok (.getfield 50, 3) := by decide +kernel
theorem dX10_feed_38 : decode cX10_feed 38 = .ok (.iload_n 3, 1) := by decide +kernel
theorem dX10_feed_39 : decode cX10_feed 39 = .ok (.invokevirtual 163, 3) := by decide +kernel
theorem dX10_feed_42 : decode cX10_feed 42 = .ok (.aload_n 0, 1) := by decide +kernel
theorem dX10_feed_43 : decode cX10_feed 43 = .ok (.getfield 50, 3) := by decide +kernel
theorem dX10_feed_46 : decode cX10_feed 46 = .ok (.iload 4, 2) := by decide +kernel
theorem dX10_feed_48 : decode cX10_feed 48 = .ok (.invokevirtual 163, 3) := by decide +kernel
theorem dX10_feed_51 : decode cX10_feed 51 = .ok (.aload_n 0, 1) := by decide +kernel
theorem dX10_feed_52 : decode cX10_feed 52 = .ok (.getfield 50, 3) := by decide +kernel
theorem dX10_feed_55 : decode cX10_feed 55 = .ok (.iload 5, 2) := by decide +kernel
theorem dX10_feed_57 : decode cX10_feed 57 = .ok (.invokevirtual 163, 3) := by decide +kernel
theorem dX10_feed_60 : decode cX10_feed 60 = .ok (.aload_n 0, 1) := by decide +kernel
theorem dX10_feed_61 : decode cX10_feed 61 = .ok (.getfield 50, 3) := by decide +kernel
theorem dX10_feed_64 : decode cX10_feed 64 = .ok (.getfield 160, 3) := by decide +kernel
theorem dX10_feed_67 : decode cX10_feed 67 = .ok (.ireturn, 1) := by decide +kernel
theorem dX10_end_0 : decode cX10_end 0 = .ok (.iload_n 1, 1) := by decide +kernel
theorem dX10_end_1 : decode cX10_end 1 = .ok (.ifCond .lt 14, 3) := by decide +kernel
theorem dX10_end_4 : decode cX10_end 4 = .ok (.iload_n 1, 1) := by decide +kernel
theorem dX10_end_5 : decode cX10_end 5 = .ok (.aload_n 0, 1) := by decide +kernel
theorem dX10_end_6 : decode cX10_end 6 = .ok (.getfield 50, 3) := by decide +kernel
theorem dX10_end_9 : decode cX10_end 9 = .ok (.getfield 160, 3) := by decide +kernel
theorem dX10_end_12 : decode cX10_end 12 = .ok (.if_icmp .le 5, 3) := by decide +kernel
theorem dX10_end_15 : decode cX10_end 15 = .ok (.iconst 0, 1) := by decide +kernel
theorem dX10_end_16 : decode cX10_end 16 = .ok (.ireturn, 1) := by decide +kernel
theorem dX10_end_17 : decode cX10_end 17 = .ok (.aload_n 0, 1) := by decide +kernel
theorem dX10_end_18 : decode cX10_end 18 = .ok (.getfield 50, 3) := by decide +kernel
theorem dX10_end_21 : decode cX10_end 21 = .ok (.iload_n 1, 1) := by decide +kernel
theorem dX10_end_22 : decode cX10_end 22 = .ok (.putfield 160, 3) := by decide +kernel
theorem dX10_end_25 : decode cX10_end 25 = .ok (.iconst 1, 1) := by decide +kernel
theorem dX10_end_26 : decode cX10_end 26 = .ok (.ireturn, 1) := by decide +kernel
theorem dX10_text_0 : decode cX10_text 0 = .ok (.aload_n 0, 1) := by decide +kernel
theorem dX10_text_1 : decode cX10_text 1 = .ok (.getfield 50, 3) := by decide +kernel
theorem dX10_text_4 : decode cX10_text 4 = .ok (.invokevirtual 166, 3) := by decide +kernel
theorem dX10_text_7 : decode cX10_text 7 = .ok (.aload_n 0, 1) := by decide +kernel
theorem dX10_text_8 : decode cX10_text 8 = .ok (.getfield 50, 3) := by decide +kernel
theorem dX10_text_11 : decode cX10_text 11 = .ok (.iconst 0, 1) := by decide +kernel
theorem dX10_text_12 : decode cX10_text 12 = .ok (.putfield 160, 3) := by decide +kernel
theorem dX10_text_15 : decode cX10_text 15 = .ok (.iload_n 1, 1) := by decide +kernel
theorem dX10_text_16 : decode cX10_text 16 = .ok (.tableswitch 110 0 3 #[32, 52, 69, 93], 32) := by decide +kernel
theorem dX10_text_48 : decode cX10_text 48 = .ok (.aload_n 0, 1) := by decide +kernel
theorem dX10_text_49 : decode cX10_text 49 = .ok (.iconst 0, 1) := by decide +kernel
theorem dX10_text_50 : decode cX10_text 50 = .ok (.aload_n 0, 1) := by decide +kernel
theorem dX10_text_51 : decode cX10_text 51 = .ok (.getfield 30, 3) := by decide +kernel
theorem dX10_text_54 : decode cX10_text 54 = .ok (.getfield 169, 3) := by decide +kernel
theorem dX10_text_57 : decode cX10_text 57 = .ok (.aload_n 0, 1) := by decide +kernel
theorem dX10_text_58 : decode cX10_text 58 = .ok (.getfield 50, 3) := by decide +kernel
theorem dX10_text_61 : decode cX10_text 61 = .ok (.invokevirtual 173, 3) := by decide +kernel
theorem dX10_text_64 : decode cX10_text 64 = .ok (.invokevirtual 179, 3) := by decide +kernel
theorem dX10_text_67 : decode cX10_text 67 = .ok (.ireturn, 1) := by decide +kernel
theorem dX10_text_68 : decode cX10_text 68 = .ok (.aload_n 0, 1) := by decide +kernel
theorem dX10_text_69 : decode cX10_text 69 = .ok (.iconst 1, 1) := by decide +kernel
theorem dX10_text_70 : decode cX10_text 70 = .ok (.aload_n 0, 1) := by decide +kernel
theorem dX10_text_71 : decode cX10_text 71 = .ok (.getfield 30, 3) := by decide +kernel
theorem dX10_text_74 : decode cX10_text 74 = .ok (.aload_n 0, 1) := by decide +kernel
theorem dX10_text_75 : decode cX10_text 75 = .ok (.getfield 50, 3) := by decide +kernel
theorem dX10_text_78 : decode cX10_text 78 = .ok (.invokevirtual 182, 3) := by decide +kernel
theorem dX10_text_81 : decode cX10_text 81 = .ok (.invokevirtual 179, 3) := by decide +kernel
theorem dX10_text_84 : decode cX10_text 84 = .ok (.ireturn, 1) := by decide +kernel
theorem dX10_text_85 : decode cX10_text 85 = .ok (.aload_n 0, 1) := by decide +kernel
theorem dX10_text_86 : decode cX10_text 86 = .ok (.iconst 2, 1) := by decide +kernel
theorem dX10_text_87 : decode cX10_text 87 = .ok (.aload_n 0, 1) := by decide +kernel
theorem dX10_text_88 : decode cX10_text 88 = .ok (.getfield 30, 3) := by decide +kernel
theorem dX10_text_91 : decode cX10_text 91 = .ok (.aload_n 0, 1) := by decide +kernel
theorem dX10_text_92 : decode cX10_text 92 = .ok (.getfield 50, 3) := by decide +kernel
theorem dX10_text_95 : decode cX10_text 95 = .ok (.aload_n 0, 1) := by decide +kernel
theorem dX10_text_96 : decode cX10_text 96 = .ok (.getfield 10, 3) := by decide +kernel
theorem dX10_text_99 : decode cX10_text 99 = .ok (.getfield 102, 3) := by decide +kernel
theorem dX10_text_102 : decode cX10_text 102 = .ok (.invokevirtual 185, 3) := by decide +kernel
theorem dX10_text_105 : decode cX10_text 105 = .ok (.invokevirtual 179, 3) := by decide +kernel
theorem dX10_text_108 : decode cX10_text 108 = .ok (.ireturn, 1) := by decide +kernel
theorem dX10_text_109 : decode cX10_text 109 = .ok (.aload_n 0, 1) := by decide +kernel
theorem dX10_text_110 : decode cX10_text 110 = .ok (.iconst 3, 1) := by decide +kernel
theorem dX10_text_111 : decode cX10_text 111 = .ok (.aload_n 0, 1) := by decide +kernel
theorem dX10_text_112 : decode cX10_text 112 = .ok (.getfield 30, 3) := by decide +kernel
theorem dX10_text_115 : decode cX10_text 115 = .ok (.aload_n 0, 1) := by decide +kernel
theorem dX10_text_116 : decode cX10_text 116 = .ok (.getfield 50, 3) := by decide +kernel
theorem dX10_text_119 : decode cX10_text 119 = .ok (.invokevirtual 189, 3) := by decide +kernel
theorem dX10_text_122 : decode cX10_text 122 = .ok (.invokevirtual 179, 3) := by decide +kernel
theorem dX10_text_125 : decode cX10_text 125 = .ok (.ireturn, 1) := by decide +kernel
theorem dX10_text_126 : decode cX10_text 126 = .ok (.iconst (-1), 1) := by decide +kernel
theorem dX10_text_127 : decode cX10_text 127 = .ok (.ireturn, 1) := by decide +kernel
theorem dX10_fault_0 : decode cX10_fault 0 = .ok (.iload_n 1, 1) := by decide +kernel
theorem dX10_fault_1 : decode cX10_fault 1 = .ok (.lookupswitch 43 #[(0, 27), (1, 35)], 27) := by decide +kernel
theorem dX10_fault_28 : decode cX10_fault 28 = .ok (.aload_n 0, 1) := by decide +kernel
theorem dX10_fault_29 : decode cX10_fault 29 = .ok (.getfield 50, 3) := by decide +kernel
theorem dX10_fault_32 : decode cX10_fault 32 = .ok (.getfield 192, 3) := by decide +kernel
theorem dX10_fault_35 : decode cX10_fault 35 = .ok (.ireturn, 1) := by decide +kernel
theorem dX10_fault_36 : decode cX10_fault 36 = .ok (.aload_n 0, 1) := by decide +kernel
theorem dX10_fault_37 : decode cX10_fault 37 = .ok (.getfield 50, 3) := by decide +kernel
theorem dX10_fault_40 : decode cX10_fault 40 = .ok (.getfield 195, 3) := by decide +kernel
theorem dX10_fault_43 : decode cX10_fault 43 = .ok (.ireturn, 1) := by decide +kernel
theorem dX10_fault_44 : decode cX10_fault 44 = .ok (.iconst (-1), 1) := by decide +kernel
theorem dX10_fault_45 : decode cX10_fault 45 = .ok (.ireturn, 1) := by decide +kernel
theorem dX10_of_0 : decode cX10_of 0 = .ok (.aload_n 0, 1) := by decide +kernel
theorem dX10_of_1 : decode cX10_of 1 = .ok (.getfield 10, 3) := by decide +kernel
theorem dX10_of_4 : decode cX10_of 4 = .ok (.iload_n 1, 1) := by decide +kernel
theorem dX10_of_5 : decode cX10_of 5 = .ok (.invokevirtual 115, 3) := by decide +kernel
theorem dX10_of_8 : decode cX10_of 8 = .ok (.ifCond .ne 6, 3) := by decide +kernel
theorem dX10_of_11 : decode cX10_of 11 = .ok (.bipush (-2), 2) := by decide +kernel
theorem dX10_of_13 : decode cX10_of 13 = .ok (.ireturn, 1) := by decide +kernel
theorem dX10_of_14 : decode cX10_of 14 = .ok (.aload_n 0, 1) := by decide +kernel
theorem dX10_of_15 : decode cX10_of 15 = .ok (.getfield 10, 3) := by decide +kernel
theorem dX10_of_18 : decode cX10_of 18 = .ok (.getfield 105, 3) := by decide +kernel
theorem dX10_of_21 : decode cX10_of 21 = .ok (.iload_n 1, 1) := by decide +kernel
theorem dX10_of_22 : decode cX10_of 22 = .ok (.aaload, 1) := by decide +kernel
theorem dX10_of_23 : decode cX10_of 23 = .ok (.astore_n 3, 1) := by decide +kernel
theorem dX10_of_24 : decode cX10_of 24 = .ok (.iload_n 2, 1) := by decide +kernel
theorem dX10_of_25 : decode cX10_of 25 = .ok (.iconst 2, 1) := by decide +kernel
theorem dX10_of_26 : decode cX10_of 26 = .ok (.if_icmp .lt 26, 3) := by decide +kernel
theorem dX10_of_29 : decode cX10_of 29 = .ok (.iload_n 2, 1) := by decide +kernel
theorem dX10_of_30 : decode cX10_of 30 = .ok (.bipush 7, 2) := by decide +kernel
theorem dX10_of_32 : decode cX10_of 32 = .ok (.if_icmp .gt 20, 3) := by decide +kernel
theorem dX10_of_35 : decode cX10_of 35 = .ok (.aload_n 3, 1) := by decide +kernel
theorem dX10_of_36 : decode cX10_of 36 = .ok (.getfield 119, 3) := by decide +kernel
theorem dX10_of_39 : decode cX10_of 39 = .ok (.ifCond .eq 11, 3) := by decide +kernel
theorem dX10_of_42 : decode cX10_of 42 = .ok (.aload_n 3, 1) := by decide +kernel
theorem dX10_of_43 : decode cX10_of 43 = .ok (.iload_n 2, 1) := by decide +kernel
theorem dX10_of_44 : decode cX10_of 44 = .ok (.invokestatic 198, 3) := by decide +kernel
theorem dX10_of_47 : decode cX10_of 47 = .ok (.goto 4, 3) := by decide +kernel
theorem dX10_of_50 : decode cX10_of 50 = .ok (.iconst (-1), 1) := by decide +kernel
theorem dX10_of_51 : decode cX10_of 51 = .ok (.ireturn, 1) := by decide +kernel
theorem dX10_of_52 : decode cX10_of 52 = .ok (.iload_n 2, 1) := by decide +kernel
theorem dX10_of_53 : decode cX10_of 53 = .ok (.tableswitch 140 0 13 #[71, 76, 140, 140, 140, 140, 140, 140, 89, 94, 99, 104, 116, 128], 71) := by decide +kernel
theorem dX10_of_124 : decode cX10_of 124 = .ok (.aload_n 3, 1) := by decide +kernel
theorem dX10_of_125 : decode cX10_of 125 = .ok (.getfield 202, 3) := by decide +kernel
theorem dX10_of_128 : decode cX10_of 128 = .ok (.ireturn, 1) := by decide +kernel
theorem dX10_of_129 : decode cX10_of 129 = .ok (.aload_n 3, 1) := by decide +kernel
theorem dX10_of_130 : decode cX10_of 130 = .ok (.getfield 119, 3) := by decide +kernel
theorem dX10_of_133 : decode cX10_of 133 = .ok (.ifCond .eq 7, 3) := by decide +kernel
theorem dX10_of_136 : decode cX10_of 136 = .ok (.iconst 1, 1) := by decide +kernel
theorem dX10_of_137 : decode cX10_of 137 = .ok (.goto 4, 3) := by decide +kernel
theorem dX10_of_140 : decode cX10_of 140 = .ok (.iconst 0, 1) := by decide +kernel
theorem dX10_of_141 : decode cX10_of 141 = .ok (.ireturn, 1) := by decide +kernel
theorem dX10_of_142 : decode cX10_of 142 = .ok (.aload_n 3, 1) := by decide +kernel
theorem dX10_of_143 : decode cX10_of 143 = .ok (.getfield 205, 3) := by decide +kernel
theorem dX10_of_146 : decode cX10_of 146 = .ok (.ireturn, 1) := by decide +kernel
theorem dX10_of_147 : decode cX10_of 147 = .ok (.aload_n 3, 1) := by decide +kernel
theorem dX10_of_148 : decode cX10_of 148 = .ok (.getfield 208, 3) := by decide +kernel
theorem dX10_of_151 : decode cX10_of 151 = .ok (.ireturn, 1) := by decide +kernel
theorem dX10_of_152 : decode cX10_of 152 = .ok (.aload_n 3, 1) := by decide +kernel
theorem dX10_of_153 : decode cX10_of 153 = .ok (.getfield 211, 3) := by decide +kernel
theorem dX10_of_156 : decode cX10_of 156 = .ok (.ireturn, 1) := by decide +kernel
theorem dX10_of_157 : decode cX10_of 157 = .ok (.aload_n 0, 1) := by decide +kernel
theorem dX10_of_158 : decode cX10_of 158 = .ok (.getfield 59, 3) := by decide +kernel
theorem dX10_of_161 : decode cX10_of 161 = .ok (.sipush 128, 3) := by decide +kernel
theorem dX10_of_164 : decode cX10_of 164 = .ok (.aload_n 3, 1) := by decide +kernel
theorem dX10_of_165 : decode cX10_of 165 = .ok (.invokevirtual 214, 3) := by decide +kernel
theorem dX10_of_168 : decode cX10_of 168 = .ok (.ireturn, 1) := by decide +kernel
theorem dX10_of_169 : decode cX10_of 169 = .ok (.aload_n 0, 1) := by decide +kernel
theorem dX10_of_170 : decode cX10_of 170 = .ok (.getfield 59, 3) := by decide +kernel
theorem dX10_of_173 : decode cX10_of 173 = .ok (.sipush 129, 3) := by decide +kernel
theorem dX10_of_176 : decode cX10_of 176 = .ok (.aload_n 3, 1) := by decide +kernel
theorem dX10_of_177 : decode cX10_of 177 = .ok (.invokevirtual 214, 3) := by decide +kernel
theorem dX10_of_180 : decode cX10_of 180 = .ok (.ireturn, 1) := by decide +kernel
theorem dX10_of_181 : decode cX10_of 181 = .ok (.aload_n 0, 1) := by decide +kernel
theorem dX10_of_182 : decode cX10_of 182 = .ok (.getfield 59, 3) := by decide +kernel
theorem dX10_of_185 : decode cX10_of 185 = .ok (.sipush 130, 3) := by decide +kernel
theorem dX10_of_188 : decode cX10_of 188 = .ok (.aload_n 3, 1) := by decide +kernel
theorem dX10_of_189 : decode cX10_of 189 = .ok (.invokevirtual 214, 3) := by decide +kernel
theorem dX10_of_192 : decode cX10_of 192 = .ok (.ireturn, 1) := by decide +kernel
theorem dX10_of_193 : decode cX10_of 193 = .ok (.bipush (-2), 2) := by decide +kernel
theorem dX10_of_195 : decode cX10_of 195 = .ok (.ireturn, 1) := by decide +kernel
theorem dX10_cell_0 : decode cX10_cell 0 = .ok (.iload_n 1, 1) := by decide +kernel
theorem dX10_cell_1 : decode cX10_cell 1 = .ok (.invokestatic 123, 3) := by decide +kernel
theorem dX10_cell_4 : decode cX10_cell 4 = .ok (.ifCond .eq 10, 3) := by decide +kernel
theorem dX10_cell_7 : decode cX10_cell 7 = .ok (.iload_n 2, 1) := by decide +kernel
theorem dX10_cell_8 : decode cX10_cell 8 = .ok (.invokestatic 123, 3) := by decide +kernel
theorem dX10_cell_11 : decode cX10_cell 11 = .ok (.ifCond .ne 6, 3) := by decide +kernel
theorem dX10_cell_14 : decode cX10_cell 14 = .ok (.bipush (-2), 2) := by decide +kernel
theorem dX10_cell_16 : decode cX10_cell 16 = .ok (.ireturn, 1) := by decide +kernel
theorem dX10_cell_17 : decode cX10_cell 17 = .ok (.bipush 12, 2) := by decide +kernel
theorem dX10_cell_19 : decode cX10_cell 19 = .ok (.iload_n 2, 1) := by decide +kernel
theorem dX10_cell_20 : decode cX10_cell 20 = .ok (.imul, 1) := by decide +kernel
theorem dX10_cell_21 : decode cX10_cell 21 = .ok (.iload_n 1, 1) := by decide +kernel
theorem dX10_cell_22 : decode cX10_cell 22 = .ok (.iadd, 1) := by decide +kernel
theorem dX10_cell_23 : decode cX10_cell 23 = .ok (.istore 4, 2) := by decide +kernel
theorem dX10_cell_25 : decode cX10_cell 25 = .ok (.iload_n 3, 1) := by decide +kernel
theorem dX10_cell_26 : decode cX10_cell 26 = .ok (.lookupswitch 47 #[(0, 26), (1, 37)], 26) := by decide +kernel
theorem dX10_cell_52 : decode cX10_cell 52 = .ok (.aload_n 0, 1) := by decide +kernel
theorem dX10_cell_53 : decode cX10_cell 53 = .ok (.getfield 10, 3) := by decide +kernel
theorem dX10_cell_56 : decode cX10_cell 56 = .ok (.getfield 65, 3) := by decide +kernel
theorem dX10_cell_59 : decode cX10_cell 59 = .ok (.iload 4, 2) := by decide +kernel
theorem dX10_cell_61 : decode cX10_cell 61 = .ok (.iaload, 1) := by decide +kernel
theorem dX10_cell_62 : decode cX10_cell 62 = .ok (.ireturn, 1) := by decide +kernel
theorem dX10_cell_63 : decode cX10_cell 63 = .ok (.aload_n 0, 1) := by decide +kernel
theorem dX10_cell_64 : decode cX10_cell 64 = .ok (.getfield 10, 3) := by decide +kernel
theorem dX10_cell_67 : decode cX10_cell 67 = .ok (.iload 4, 2) := by decide +kernel
theorem dX10_cell_69 : decode cX10_cell 69 = .ok (.invokevirtual 130, 3) := by decide +kernel
theorem dX10_cell_72 : decode cX10_cell 72 = .ok (.ireturn, 1) := by decide +kernel
theorem dX10_cell_73 : decode cX10_cell 73 = .ok (.bipush (-2), 2) := by decide +kernel
theorem dX10_cell_75 : decode cX10_cell 75 = .ok (.ireturn, 1) := by decide +kernel
theorem dX10_book_0 : decode cX10_book 0 = .ok (.iload_n 1, 1) := by decide +kernel
theorem dX10_book_1 : decode cX10_book 1 = .ok (.ifCond .lt 23, 3) := by decide +kernel
theorem dX10_book_4 : decode cX10_book 4 = .ok (.iload_n 1, 1) := by decide +kernel
theorem dX10_book_5 : decode cX10_book 5 = .ok (.aload_n 0, 1) := by decide +kernel
theorem dX10_book_6 : decode cX10_book 6 = .ok (.getfield 10, 3) := by decide +kernel
theorem dX10_book_9 : decode cX10_book 9 = .ok (.getfield 218, 3) := by decide +kernel
theorem dX10_book_12 : decode cX10_book 12 = .ok (.if_icmp .ge 12, 3) := by decide +kernel
theorem dX10_book_15 : decode cX10_book 15 = .ok (.iload_n 2, 1) := by decide +kernel
theorem dX10_book_16 : decode cX10_book 16 = .ok (.ifCond .lt 8, 3) := by decide +kernel
theorem dX10_book_19 : decode cX10_book 19 = .ok (.iload_n 2, 1) := by decide +kernel
theorem dX10_book_20 : decode cX10_book 20 = .ok (.iconst 4, 1) := by decide +kernel
theorem dX10_book_21 : decode cX10_book 21 = .ok (.if_icmp .lt 5, 3) := by decide +kernel
theorem dX10_book_24 : decode cX10_book 24 = .ok (.iconst (-1), 1) := by decide +kernel
theorem dX10_book_25 : decode cX10_book 25 = .ok (.ireturn, 1) := by decide +kernel
theorem dX10_book_26 : decode cX10_book 26 = .ok (.aload_n 0, 1) := by decide +kernel
theorem dX10_book_27 : decode cX10_book 27 = .ok (.getfield 36, 3) := by decide +kernel
theorem dX10_book_30 : decode cX10_book 30 = .ok (.iload_n 1, 1) := by decide +kernel
theorem dX10_book_31 : decode cX10_book 31 = .ok (.iload_n 2, 1) := by decide +kernel
theorem dX10_book_32 : decode cX10_book 32 = .ok (.invokevirtual 221, 3) := by decide +kernel
theorem dX10_book_35 : decode cX10_book 35 = .ok (.ireturn, 1) := by decide +kernel
theorem dX10_goes_0 : decode cX10_goes 0 = .ok (.iload_n 1, 1) := by decide +kernel
theorem dX10_goes_1 : decode cX10_goes 1 = .ok (.iconst 1, 1) := by decide +kernel
theorem dX10_goes_2 : decode cX10_goes 2 = .ok (.if_icmp .lt 18, 3) := by decide +kernel
theorem dX10_goes_5 : decode cX10_goes 5 = .ok (.iload_n 1, 1) := by decide +kernel
theorem dX10_goes_6 : decode cX10_goes 6 = .ok (.bipush 60, 2) := by decide +kernel
theorem dX10_goes_8 : decode cX10_goes 8 = .ok (.if_icmp .gt 12, 3) := by decide +kernel
theorem dX10_goes_11 : decode cX10_goes 11 = .ok (.iload_n 2, 1) := by decide +kernel
theorem dX10_goes_12 : decode cX10_goes 12 = .ok (.ifCond .lt 8, 3) := by decide +kernel
theorem dX10_goes_15 : decode cX10_goes 15 = .ok (.iload_n 2, 1) := by decide +kernel
theorem dX10_goes_16 : decode cX10_goes 16 = .ok (.iconst 3, 1) := by decide +kernel
theorem dX10_goes_17 : decode cX10_goes 17 = .ok (.if_icmp .le 5, 3) := by decide +kernel
theorem dX10_goes_20 : decode cX10_goes 20 = .ok (.iconst (-1), 1) := by decide +kernel
theorem dX10_goes_21 : decode cX10_goes 21 = .ok (.ireturn, 1) := by decide +kernel
theorem dX10_goes_22 : decode cX10_goes 22 = .ok (.aload_n 0, 1) := by decide +kernel
theorem dX10_goes_23 : decode cX10_goes 23 = .ok (.invokevirtual 224, 3) := by decide +kernel
theorem dX10_goes_26 : decode cX10_goes 26 = .ok (.iconst 0, 1) := by decide +kernel
theorem dX10_goes_27 : decode cX10_goes 27 = .ok (.istore_n 3, 1) := by decide +kernel
theorem dX10_goes_28 : decode cX10_goes 28 = .ok (.iload_n 3, 1) := by decide +kernel
theorem dX10_goes_29 : decode cX10_goes 29 = .ok (.iload_n 1, 1) := by decide +kernel
theorem dX10_goes_30 : decode cX10_goes 30 = .ok (.if_icmp .ge 16, 3) := by decide +kernel
theorem dX10_goes_33 : decode cX10_goes 33 = .ok (.aload_n 0, 1) := by decide +kernel
theorem dX10_goes_34 : decode cX10_goes 34 = .ok (.getfield 59, 3) := by decide +kernel
theorem dX10_goes_37 : decode cX10_goes 37 = .ok (.invokevirtual 157, 3) := by decide +kernel
theorem dX10_goes_40 : decode cX10_goes 40 = .ok (.iinc 3 1, 3) := by decide +kernel
theorem dX10_goes_43 : decode cX10_goes 43 = .ok (.goto (-15), 3) := by decide +kernel
theorem dX10_goes_46 : decode cX10_goes 46 = .ok (.aload_n 0, 1) := by decide +kernel
theorem dX10_goes_47 : decode cX10_goes 47 = .ok (.getfield 10, 3) := by decide +kernel
theorem dX10_goes_50 : decode cX10_goes 50 = .ok (.iload_n 2, 1) := by decide +kernel
theorem dX10_goes_51 : decode cX10_goes 51 = .ok (.invokevirtual 227, 3) := by decide +kernel
theorem dX10_goes_54 : decode cX10_goes 54 = .ok (.istore_n 3, 1) := by decide +kernel
theorem dX10_goes_55 : decode cX10_goes 55 = .ok (.aload_n 0, 1) := by decide +kernel
theorem dX10_goes_56 : decode cX10_goes 56 = .ok (.invokevirtual 230, 3) := by decide +kernel
theorem dX10_goes_59 : decode cX10_goes 59 = .ok (.iload_n 3, 1) := by decide +kernel
theorem dX10_goes_60 : decode cX10_goes 60 = .ok (.ireturn, 1) := by decide +kernel
theorem dX10_over_0 : decode cX10_over 0 = .ok (.aload_n 0, 1) := by decide +kernel
theorem dX10_over_1 : decode cX10_over 1 = .ok (.getfield 10, 3) := by decide +kernel
theorem dX10_over_4 : decode cX10_over 4 = .ok (.iload_n 1, 1) := by decide +kernel
theorem dX10_over_5 : decode cX10_over 5 = .ok (.invokevirtual 145, 3) := by decide +kernel
theorem dX10_over_8 : decode cX10_over 8 = .ok (.ifCond .ne 5, 3) := by decide +kernel
theorem dX10_over_11 : decode cX10_over 11 = .ok (.iconst (-1), 1) := by decide +kernel
theorem dX10_over_12 : decode cX10_over 12 = .ok (.ireturn, 1) := by decide +kernel
theorem dX10_over_13 : decode cX10_over 13 = .ok (.iconst (-1), 1) := by decide +kernel
theorem dX10_over_14 : decode cX10_over 14 = .ok (.istore_n 2, 1) := by decide +kernel
theorem dX10_over_15 : decode cX10_over 15 = .ok (.aload_n 0, 1) := by decide +kernel
theorem dX10_over_16 : decode cX10_over 16 = .ok (.invokevirtual 224, 3) := by decide +kernel
theorem dX10_over_19 : decode cX10_over 19 = .ok (.iconst 1, 1) := by decide +kernel
theorem dX10_over_20 : decode cX10_over 20 = .ok (.istore_n 3, 1) := by decide +kernel
theorem dX10_over_21 : decode cX10_over 21 = .ok (.iload_n 3, 1) := by decide +kernel
theorem dX10_over_22 : decode cX10_over 22 = .ok (.bipush 60, 2) := by decide +kernel
theorem dX10_over_24 : decode cX10_over 24 = .ok (.if_icmp .gt 34, 3) := by decide +kernel
theorem dX10_over_27 : decode cX10_over 27 = .ok (.iload_n 2, 1) := by decide +kernel
theorem dX10_over_28 : decode cX10_over 28 = .ok (.iconst (-1), 1) := by decide +kernel
theorem dX10_over_29 : decode cX10_over 29 = .ok (.if_icmp .ne 29, 3) := by decide +kernel
theorem dX10_over_32 : decode cX10_over 32 = .ok (.aload_n 0, 1) := by decide +kernel
theorem dX10_over_33 : decode cX10_over 33 = .ok (.getfield 59, 3) := by decide +kernel
theorem dX10_over_36 : decode cX10_over 36 = .ok (.invokevirtual 157, 3) := by decide +kernel
theorem dX10_over_39 : decode cX10_over 39 = .ok (.aload_n 0, 1) := by decide +kernel
theorem dX10_over_40 : decode cX10_over 40 = .ok (.getfield 10, 3) := by decide +kernel
theorem dX10_over_43 : decode cX10_over 43 = .ok (.iload_n 1, 1) := by decide +kernel
theorem dX10_over_44 : decode cX10_over 44 = .ok (.invokevirtual 145, 3) := by decide +kernel
theorem dX10_over_47 : decode cX10_over 47 = .ok (.ifCond .ne 5, 3) := by decide +kernel
theorem dX10_over_50 : decode cX10_over 50 = .ok (.iload_n 3, 1) := by decide +kernel
theorem dX10_over_51 : decode cX10_over 51 = .ok (.istore_n 2, 1) := by decide +kernel
theorem dX10_over_52 : decode cX10_over 52 = .ok (.iinc 3 1, 3) := by decide +kernel
theorem dX10_over_55 : decode cX10_over 55 = .ok (.goto (-34), 3) := by decide +kernel
theorem dX10_over_58 : decode cX10_over 58 = .ok (.aload_n 0, 1) := by decide +kernel
theorem dX10_over_59 : decode cX10_over 59 = .ok (.invokevirtual 230, 3) := by decide +kernel
theorem dX10_over_62 : decode cX10_over 62 = .ok (.iload_n 2, 1) := by decide +kernel
theorem dX10_over_63 : decode cX10_over 63 = .ok (.ireturn, 1) := by decide +kernel
theorem dX10_far_0 : decode cX10_far 0 = .ok (.aload_n 0, 1) := by decide +kernel
theorem dX10_far_1 : decode cX10_far 1 = .ok (.getfield 72, 3) := by decide +kernel
theorem dX10_far_4 : decode cX10_far 4 = .ok (.iload_n 1, 1) := by decide +kernel
theorem dX10_far_5 : decode cX10_far 5 = .ok (.invokevirtual 233, 3) := by decide +kernel
theorem dX10_far_8 : decode cX10_far 8 = .ok (.ifCond .eq 36, 3) := by decide +kernel
theorem dX10_far_11 : decode cX10_far 11 = .ok (.aload_n 0, 1) := by decide +kernel
theorem dX10_far_12 : decode cX10_far 12 = .ok (.getfield 72, 3) := by decide +kernel
theorem dX10_far_15 : decode cX10_far 15 = .ok (.iload_n 3, 1) := by decide +kernel
theorem dX10_far_16 : decode cX10_far 16 = .ok (.invokevirtual 233, 3) := by decide +kernel
theorem dX10_far_19 : decode cX10_far 19 = .ok (.ifCond .eq 25, 3) := by decide +kernel
theorem dX10_far_22 : decode cX10_far 22 = .ok (.iload_n 2, 1) := by decide +kernel
theorem dX10_far_23 : decode cX10_far 23 = .ok (.ifCond .lt 21, 3) := by decide +kernel
theorem dX10_far_26 : decode cX10_far 26 = .ok (.iload_n 2, 1) := by decide +kernel
theorem dX10_far_27 : decode cX10_far 27 = .ok (.iconst 3, 1) := by decide +kernel
theorem dX10_far_28 : decode cX10_far 28 = .ok (.if_icmp .gt 16, 3) := by decide +kernel
theorem dX10_far_31 : decode cX10_far 31 = .ok (.iload 4, 2) := by decide +kernel
theorem dX10_far_33 : decode cX10_far 33 = .ok (.iconst (-1), 1) := by decide +kernel
theorem dX10_far_34 : decode cX10_far 34 = .ok (.if_icmp .lt 10, 3) := by decide +kernel
theorem dX10_far_37 : decode cX10_far 37 = .ok (.iload 4, 2) := by decide +kernel
theorem dX10_far_39 : decode cX10_far 39 = .ok (.bipush 6, 2) := by decide +kernel
theorem dX10_far_41 : decode cX10_far 41 = .ok (.if_icmp .le 5, 3) := by decide +kernel
theorem dX10_far_44 : decode cX10_far 44 = .ok (.iconst (-1), 1) := by decide +kernel
theorem dX10_far_45 : decode cX10_far 45 = .ok (.ireturn, 1) := by decide +kernel
theorem dX10_far_46 : decode cX10_far 46 = .ok (.iload 4, 2) := by decide +kernel
theorem dX10_far_48 : decode cX10_far 48 = .ok (.iconst (-1), 1) := by decide +kernel
theorem dX10_far_49 : decode cX10_far 49 = .ok (.if_icmp .ne 16, 3) := by decide +kernel
theorem dX10_far_52 : decode cX10_far 52 = .ok (.aload_n 0, 1) := by decide +kernel
theorem dX10_far_53 : decode cX10_far 53 = .ok (.getfield 72, 3) := by decide +kernel
theorem dX10_far_56 : decode cX10_far 56 = .ok (.iload_n 1, 1) := by decide +kernel
theorem dX10_far_57 : decode cX10_far 57 = .ok (.iload_n 2, 1) := by decide +kernel
theorem dX10_far_58 : decode cX10_far 58 = .ok (.iload_n 3, 1) := by decide +kernel
theorem dX10_far_59 : decode cX10_far 59 = .ok (.invokevirtual 236, 3) := by decide +kernel
theorem dX10_far_62 : decode cX10_far 62 = .ok (.goto 15, 3) := by decide +kernel
theorem dX10_far_65 : decode cX10_far 65 = .ok (.aload_n 0, 1) := by decide +kernel
theorem dX10_far_66 : decode cX10_far 66 = .ok (.getfield 72, 3) := by decide +kernel
theorem dX10_far_69 : decode cX10_far 69 = .ok (.iload_n 1, 1) := by decide +kernel
theorem dX10_far_70 : decode cX10_far 70 = .ok (.iload_n 2, 1) := by decide +kernel
theorem dX10_far_71 : decode cX10_far 71 = .ok (.iload_n 3, 1) := by decide +kernel
theorem dX10_far_72 : decode cX10_far 72 = .ok (.iload 4, 2) := by decide +kernel
theorem dX10_far_74 : decode cX10_far 74 = .ok (.invokevirtual 240, 3) := by decide +kernel
theorem dX10_far_77 : decode cX10_far 77 = .ok (.ireturn, 1) := by decide +kernel
theorem dX10_with_0 : decode cX10_with 0 = .ok (.aload_n 0, 1) := by decide +kernel
theorem dX10_with_1 : decode cX10_with 1 = .ok (.getfield 72, 3) := by decide +kernel
theorem dX10_with_4 : decode cX10_with 4 = .ok (.iload_n 1, 1) := by decide +kernel
theorem dX10_with_5 : decode cX10_with 5 = .ok (.invokevirtual 233, 3) := by decide +kernel
theorem dX10_with_8 : decode cX10_with 8 = .ok (.ifCond .eq 28, 3) := by decide +kernel
theorem dX10_with_11 : decode cX10_with 11 = .ok (.aload_n 0, 1) := by decide +kernel
theorem dX10_with_12 : decode cX10_with 12 = .ok (.getfield 72, 3) := by decide +kernel
theorem dX10_with_15 : decode cX10_with 15 = .ok (.iload_n 3, 1) := by decide +kernel
theorem dX10_with_16 : decode cX10_with 16 = .ok (.invokevirtual 233, 3) := by decide +kernel
theorem dX10_with_19 : decode cX10_with 19 = .ok (.ifCond .eq 17, 3) := by decide +kernel
theorem dX10_with_22 : decode cX10_with 22 = .ok (.iload_n 2, 1) := by decide +kernel
theorem dX10_with_23 : decode cX10_with 23 = .ok (.ifCond .lt 13, 3) := by decide +kernel
theorem dX10_with_26 : decode cX10_with 26 = .ok (.iload_n 2, 1) := by decide +kernel
theorem dX10_with_27 : decode cX10_with 27 = .ok (.iconst 3, 1) := by decide +kernel
theorem dX10_with_28 : decode cX10_with 28 = .ok (.if_icmp .gt 8, 3) := by decide +kernel
theorem dX10_with_31 : decode cX10_with 31 = .ok (.iload 4, 2) := by decide +kernel
theorem dX10_with_33 : decode cX10_with 33 = .ok (.ifCond .ge 5, 3) := by decide +kernel
theorem dX10_with_36 : decode cX10_with 36 = .ok (.iconst (-1), 1) := by decide +kernel
theorem dX10_with_37 : decode cX10_with 37 = .ok (.ireturn, 1) := by decide +kernel
theorem dX10_with_38 : decode cX10_with 38 = .ok (.iload 4, 2) := by decide +kernel
theorem dX10_with_40 : decode cX10_with 40 = .ok (.bipush 10, 2) := by decide +kernel
theorem dX10_with_42 : decode cX10_with 42 = .ok (.idiv, 1) := by decide +kernel
theorem dX10_with_43 : decode cX10_with 43 = .ok (.istore 5, 2) := by decide +kernel
theorem dX10_with_45 : decode cX10_with 45 = .ok (.iload 4, 2) := by decide +kernel
theorem dX10_with_47 : decode cX10_with 47 = .ok (.bipush 10, 2) := by decide +kernel
theorem dX10_with_49 : decode cX10_with 49 = .ok (.irem, 1) := by decide +kernel
theorem dX10_with_50 : decode cX10_with 50 = .ok (.istore 6, 2) := by decide +kernel
theorem dX10_with_52 : decode cX10_with 52 = .ok (.iload 5, 2) := by decide +kernel
theorem dX10_with_54 : decode cX10_with 54 = .ok (.bipush 20, 2) := by decide +kernel
theorem dX10_with_56 : decode cX10_with 56 = .ok (.if_icmp .gt 10, 3) := by decide +kernel
theorem dX10_with_59 : decode cX10_with 59 = .ok (.iload 6, 2) := by decide +kernel
theorem dX10_with_61 : decode cX10_with 61 = .ok (.bipush 6, 2) := by decide +kernel
theorem dX10_with_63 : decode cX10_with 63 = .ok (.if_icmp .le 5, 3) := by decide +kernel
theorem dX10_with_66 : decode cX10_with 66 = .ok (.iconst (-1), 1) := by decide +kernel
theorem dX10_with_67 : decode cX10_with 67 = .ok (.ireturn, 1) := by decide +kernel
theorem dX10_with_68 : decode cX10_with 68 = .ok (.aload_n 0, 1) := by decide +kernel
theorem dX10_with_69 : decode cX10_with 69 = .ok (.getfield 72, 3) := by decide +kernel
theorem dX10_with_72 : decode cX10_with 72 = .ok (.iload_n 1, 1) := by decide +kernel
theorem dX10_with_73 : decode cX10_with 73 = .ok (.iload_n 2, 1) := by decide +kernel
theorem dX10_with_74 : decode cX10_with 74 = .ok (.iload_n 3, 1) := by decide +kernel
theorem dX10_with_75 : decode cX10_with 75 = .ok (.iload 5, 2) := by decide +kernel
theorem dX10_with_77 : decode cX10_with 77 = .ok (.iload 6, 2) := by decide +kernel
theorem dX10_with_79 : decode cX10_with 79 = .ok (.invokevirtual 244, 3) := by decide +kernel
theorem dX10_with_82 : decode cX10_with 82 = .ok (.ireturn, 1) := by decide +kernel
theorem dX10_seen_0 : decode cX10_seen 0 = .ok (.iload_n 1, 1) := by decide +kernel
theorem dX10_seen_1 : decode cX10_seen 1 = .ok (.invokestatic 248, 3) := by decide +kernel
theorem dX10_seen_4 : decode cX10_seen 4 = .ok (.ifCond .eq 15, 3) := by decide +kernel
theorem dX10_seen_7 : decode cX10_seen 7 = .ok (.iload_n 2, 1) := by decide +kernel
theorem dX10_seen_8 : decode cX10_seen 8 = .ok (.iconst (-1), 1) := by decide +kernel
theorem dX10_seen_9 : decode cX10_seen 9 = .ok (.if_icmp .eq 12, 3) := by decide +kernel
theorem dX10_seen_12 : decode cX10_seen 12 = .ok (.iload_n 2, 1) := by decide +kernel
theorem dX10_seen_13 : decode cX10_seen 13 = .ok (.invokestatic 248, 3) := by decide +kernel
theorem dX10_seen_16 : decode cX10_seen 16 = .ok (.ifCond .ne 5, 3) := by decide +kernel
theorem dX10_seen_19 : decode cX10_seen 19 = .ok (.iconst (-1), 1) := by decide +kernel
theorem dX10_seen_20 : decode cX10_seen 20 = .ok (.ireturn, 1) := by decide +kernel
theorem dX10_seen_21 : decode cX10_seen 21 = .ok (.iload_n 2, 1) := by decide +kernel
theorem dX10_seen_22 : decode cX10_seen 22 = .ok (.iconst (-1), 1) := by decide +kernel
theorem dX10_seen_23 : decode cX10_seen 23 = .ok (.if_icmp .eq 21, 3) := by decide +kernel
theorem dX10_seen_26 : decode cX10_seen 26 = .ok (.aload_n 0, 1) := by decide +kernel
theorem dX10_seen_27 : decode cX10_seen 27 = .ok (.getfield 72, 3) := by decide +kernel
theorem dX10_seen_30 : decode cX10_seen 30 = .ok (.iload_n 1, 1) := by decide +kernel
theorem dX10_seen_31 : decode cX10_seen 31 = .ok (.iload_n 2, 1) := by decide +kernel
theorem dX10_seen_32 : decode cX10_seen 32 = .ok (.invokevirtual 251, 3) := by decide +kernel
theorem dX10_seen_35 : decode cX10_seen 35 = .ok (.ifCond .eq 7, 3) := by decide +kernel
theorem dX10_seen_38 : decode cX10_seen 38 = .ok (.iconst 1, 1) := by decide +kernel
theorem dX10_seen_39 : decode cX10_seen 39 = .ok (.goto 4, 3) := by decide +kernel
theorem dX10_seen_42 : decode cX10_seen 42 = .ok (.iconst 0, 1) := by decide +kernel
theorem dX10_seen_43 : decode cX10_seen 43 = .ok (.ireturn, 1) := by decide +kernel
theorem dX10_seen_44 : decode cX10_seen 44 = .ok (.iconst 0, 1) := by decide +kernel
theorem dX10_seen_45 : decode cX10_seen 45 = .ok (.istore_n 3, 1) := by decide +kernel
theorem dX10_seen_46 : decode cX10_seen 46 = .ok (.iconst 0, 1) := by decide +kernel
theorem dX10_seen_47 : decode cX10_seen 47 = .ok (.istore 4, 2) := by decide +kernel
theorem dX10_seen_49 : decode cX10_seen 49 = .ok (.iload 4, 2) := by decide +kernel
theorem dX10_seen_51 : decode cX10_seen 51 = .ok (.sipush 144, 3) := by decide +kernel
theorem dX10_seen_54 : decode cX10_seen 54 = .ok (.if_icmp .ge 25, 3) := by decide +kernel
theorem dX10_seen_57 : decode cX10_seen 57 = .ok (.aload_n 0, 1) := by decide +kernel
theorem dX10_seen_58 : decode cX10_seen 58 = .ok (.getfield 72, 3) := by decide +kernel
theorem dX10_seen_61 : decode cX10_seen 61 = .ok (.iload_n 1, 1) := by decide +kernel
theorem dX10_seen_62 : decode cX10_seen 62 = .ok (.iload 4, 2) := by decide +kernel
theorem dX10_seen_64 : decode cX10_seen 64 = .ok (.invokevirtual 251, 3) := by decide +kernel
theorem dX10_seen_67 : decode cX10_seen 67 = .ok (.ifCond .eq 6, 3) := by decide +kernel
theorem dX10_seen_70 : decode cX10_seen 70 = .ok (.iinc 3 1, 3) := by decide +kernel
theorem dX10_seen_73 : decode cX10_seen 73 = .ok (.iinc 4 1, 3) := by decide +kernel
theorem dX10_seen_76 : decode cX10_seen 76 = .ok (.goto (-27), 3) := by decide +kernel
theorem dX10_seen_79 : decode cX10_seen 79 = .ok (.iload_n 3, 1) := by decide +kernel
theorem dX10_seen_80 : decode cX10_seen 80 = .ok (.ireturn, 1) := by decide +kernel
theorem dX10_known_0 : decode cX10_known 0 = .ok (.iload_n 1, 1) := by decide +kernel
theorem dX10_known_1 : decode cX10_known 1 = .ok (.ifCond .lt 18, 3) := by decide +kernel
theorem dX10_known_4 : decode cX10_known 4 = .ok (.iload_n 1, 1) := by decide +kernel
theorem dX10_known_5 : decode cX10_known 5 = .ok (.iconst 1, 1) := by decide +kernel
theorem dX10_known_6 : decode cX10_known 6 = .ok (.if_icmp .gt 13, 3) := by decide +kernel
theorem dX10_known_9 : decode cX10_known 9 = .ok (.iload_n 2, 1) := by decide +kernel
theorem dX10_known_10 : decode cX10_known 10 = .ok (.iconst (-1), 1) := by decide +kernel
theorem dX10_known_11 : decode cX10_known 11 = .ok (.if_icmp .lt 8, 3) := by decide +kernel
theorem dX10_known_14 : decode cX10_known 14 = .ok (.iload_n 2, 1) := by decide +kernel
theorem dX10_known_15 : decode cX10_known 15 = .ok (.iconst 2, 1) := by decide +kernel
theorem dX10_known_16 : decode cX10_known 16 = .ok (.if_icmp .le 5, 3) := by decide +kernel
theorem dX10_known_19 : decode cX10_known 19 = .ok (.iconst (-1), 1) := by decide +kernel
theorem dX10_known_20 : decode cX10_known 20 = .ok (.ireturn, 1) := by decide +kernel
theorem dX10_known_21 : decode cX10_known 21 = .ok (.aload_n 0, 1) := by decide +kernel
theorem dX10_known_22 : decode cX10_known 22 = .ok (.getfield 43, 3) := by decide +kernel
theorem dX10_known_25 : decode cX10_known 25 = .ok (.iload_n 1, 1) := by decide +kernel
theorem dX10_known_26 : decode cX10_known 26 = .ok (.iload_n 2, 1) := by decide +kernel
theorem dX10_known_27 : decode cX10_known 27 = .ok (.invokevirtual 255, 3) := by decide +kernel
theorem dX10_known_30 : decode cX10_known 30 = .ok (.ireturn, 1) := by decide +kernel
theorem dX10_one_0 : decode cX10_one 0 = .ok (.iload_n 1, 1) := by decide +kernel
theorem dX10_one_1 : decode cX10_one 1 = .ok (.lookupswitch 51 #[(0, 27), (1, 43)], 27) := by decide +kernel
theorem dX10_one_28 : decode cX10_one 28 = .ok (.aload_n 0, 1) := by decide +kernel
theorem dX10_one_29 : decode cX10_one 29 = .ok (.getfield 43, 3) := by decide +kernel
theorem dX10_one_32 : decode cX10_one 32 = .ok (.invokevirtual 258, 3) := by decide +kernel
theorem dX10_one_35 : decode cX10_one 35 = .ok (.ifCond .eq 7, 3) := by decide +kernel
theorem dX10_one_38 : decode cX10_one 38 = .ok (.iconst 1, 1) := by decide +kernel
theorem dX10_one_39 : decode cX10_one 39 = .ok (.goto 4, 3) := by decide +kernel
theorem dX10_one_42 : decode cX10_one 42 = .ok (.iconst 0, 1) := by decide +kernel
theorem dX10_one_43 : decode cX10_one 43 = .ok (.ireturn, 1) := by decide +kernel
theorem dX10_one_44 : decode cX10_one 44 = .ok (.aload_n 0, 1) := by decide +kernel
theorem dX10_one_45 : decode cX10_one 45 = .ok (.getfield 43, 3) := by decide +kernel
theorem dX10_one_48 : decode cX10_one 48 = .ok (.invokevirtual 262, 3) := by decide +kernel
theorem dX10_one_51 : decode cX10_one 51 = .ok (.ireturn, 1) := by decide +kernel
theorem dX10_one_52 : decode cX10_one 52 = .ok (.iconst (-1), 1) := by decide +kernel
theorem dX10_one_53 : decode cX10_one 53 = .ok (.ireturn, 1) := by decide +kernel
theorem dX10_move_0 : decode cX10_move 0 = .ok (.iload_n 1, 1) := by decide +kernel
theorem dX10_move_1 : decode cX10_move 1 = .ok (.iconst (-1), 1) := by decide +kernel
theorem dX10_move_2 : decode cX10_move 2 = .ok (.if_icmp .lt 8, 3) := by decide +kernel
theorem dX10_move_5 : decode cX10_move 5 = .ok (.iload_n 1, 1) := by decide +kernel
theorem dX10_move_6 : decode cX10_move 6 = .ok (.iconst 2, 1) := by decide +kernel
theorem dX10_move_7 : decode cX10_move 7 = .ok (.if_icmp .le 7, 3) := by decide +kernel
theorem dX10_move_10 : decode cX10_move 10 = .ok (.iconst (-1), 1) := by decide +kernel
theorem dX10_move_11 : decode cX10_move 11 = .ok (.goto 11, 3) := by decide +kernel
theorem dX10_move_14 : decode cX10_move 14 = .ok (.aload_n 0, 1) := by decide +kernel
theorem dX10_move_15 : decode cX10_move 15 = .ok (.getfield 43, 3) := by decide +kernel
theorem dX10_move_18 : decode cX10_move 18 = .ok (.iload_n 1, 1) := by decide +kernel
theorem dX10_move_19 : decode cX10_move 19 = .ok (.invokevirtual 266, 3) := by decide +kernel
theorem dX10_move_22 : decode cX10_move 22 = .ok (.ireturn, 1) := by decide +kernel
theorem dX10_round_0 : decode cX10_round 0 = .ok (.iload_n 1, 1) := by decide +kernel
theorem dX10_round_1 : decode cX10_round 1 = .ok (.tableswitch 63 0 3 #[31, 39, 47, 55], 31) := by decide +kernel
theorem dX10_round_32 : decode cX10_round 32 = .ok (.aload_n 0, 1) := by decide +kernel
theorem dX10_round_33 : decode cX10_round 33 = .ok (.getfield 43, 3) := by decide +kernel
theorem dX10_round_36 : decode cX10_round 36 = .ok (.invokevirtual 269, 3) := by decide +kernel
theorem dX10_round_39 : decode cX10_round 39 = .ok (.ireturn, 1) := by decide +kernel
theorem dX10_round_40 : decode cX10_round 40 = .ok (.aload_n 0, 1) := by decide +kernel
theorem dX10_round_41 : decode cX10_round 41 = .ok (.getfield 43, 3) := by decide +kernel
theorem dX10_round_44 : decode cX10_round 44 = .ok (.invokevirtual 272, 3) := by decide +kernel
theorem dX10_round_47 : decode cX10_round 47 = .ok (.ireturn, 1) := by decide +kernel
theorem dX10_round_48 : decode cX10_round 48 = .ok (.aload_n 0, 1) := by decide +kernel
theorem dX10_round_49 : decode cX10_round 49 = .ok (.getfield 43, 3) := by decide +kernel
theorem dX10_round_52 : decode cX10_round 52 = .ok (.invokevirtual 275, 3) := by decide +kernel
theorem dX10_round_55 : decode cX10_round 55 = .ok (.ireturn, 1) := by decide +kernel
theorem dX10_round_56 : decode cX10_round 56 = .ok (.aload_n 0, 1) := by decide +kernel
theorem dX10_round_57 : decode cX10_round 57 = .ok (.getfield 43, 3) := by decide +kernel
theorem dX10_round_60 : decode cX10_round 60 = .ok (.invokevirtual 278, 3) := by decide +kernel
theorem dX10_round_63 : decode cX10_round 63 = .ok (.ireturn, 1) := by decide +kernel
theorem dX10_round_64 : decode cX10_round 64 = .ok (.bipush (-100), 2) := by decide +kernel
theorem dX10_round_66 : decode cX10_round 66 = .ok (.ireturn, 1) := by decide +kernel
theorem dX10_folded_0 : decode cX10_folded 0 = .ok (.iload_n 1, 1) := by decide +kernel
theorem dX10_folded_1 : decode cX10_folded 1 = .ok (.iconst 1, 1) := by decide +kernel
theorem dX10_folded_2 : decode cX10_folded 2 = .ok (.if_icmp .lt 34, 3) := by decide +kernel
theorem dX10_folded_5 : decode cX10_folded 5 = .ok (.iload_n 1, 1) := by decide +kernel
theorem dX10_folded_6 : decode cX10_folded 6 = .ok (.bipush 15, 2) := by decide +kernel
theorem dX10_folded_8 : decode cX10_folded 8 = .ok (.if_icmp .gt 28, 3) := by decide +kernel
theorem dX10_folded_11 : decode cX10_folded 11 = .ok (.iload_n 3, 1) := by decide +kernel
theorem dX10_folded_12 : decode cX10_folded 12 = .ok (.ifCond .lt 24, 3) := by decide +kernel
theorem dX10_folded_15 : decode cX10_folded 15 = .ok (.iload_n 3, 1) := by decide +kernel
theorem dX10_folded_16 : decode cX10_folded 16 = .ok (.iconst 2, 1) := by decide +kernel
theorem dX10_folded_17 : decode cX10_folded 17 = .ok (.if_icmp .gt 19, 3) := by decide +kernel
theorem dX10_folded_20 : decode cX10_folded 20 = .ok (.iload_n 3, 1) := by decide +kernel
theorem dX10_folded_21 : decode cX10_folded 21 = .ok (.ifCond .ne 19, 3) := by decide +kernel
theorem dX10_folded_24 : decode cX10_folded 24 = .ok (.iload_n 2, 1) := by decide +kernel
theorem dX10_folded_25 : decode cX10_folded 25 = .ok (.iconst 1, 1) := by decide +kernel
theorem dX10_folded_26 : decode cX10_folded 26 = .ok (.if_icmp .lt 10, 3) := by decide +kernel
theorem dX10_folded_29 : decode cX10_folded 29 = .ok (.iload_n 2, 1) := by decide +kernel
theorem dX10_folded_30 : decode cX10_folded 30 = .ok (.iconst 1, 1) := by decide +kernel
theorem dX10_folded_31 : decode cX10_folded 31 = .ok (.iload_n 1, 1) := by decide +kernel
theorem dX10_folded_32 : decode cX10_folded 32 = .ok (.ishl, 1) := by decide +kernel
theorem dX10_folded_33 : decode cX10_folded 33 = .ok (.if_icmp .lt 7, 3) := by decide +kernel
theorem dX10_folded_36 : decode cX10_folded 36 = .ok (.sipush (-1000), 3) := by decide +kernel
theorem dX10_folded_39 : decode cX10_folded 39 = .ok (.ireturn, 1) := by decide +kernel
theorem dX10_folded_40 : decode cX10_folded 40 = .ok (.iload_n 3, 1) := by decide +kernel
theorem dX10_folded_41 : decode cX10_folded 41 = .ok (.ifCond .ne 14, 3) := by decide +kernel
theorem dX10_folded_44 : decode cX10_folded 44 = .ok (.aload_n 0, 1) := by decide +kernel
theorem dX10_folded_45 : decode cX10_folded 45 = .ok (.getfield 79, 3) := by decide +kernel
theorem dX10_folded_48 : decode cX10_folded 48 = .ok (.iload_n 2, 1) := by decide +kernel
theorem dX10_folded_49 : decode cX10_folded 49 = .ok (.invokevirtual 281, 3) := by decide +kernel
theorem dX10_folded_52 : decode cX10_folded 52 = .ok (.goto 21, 3) := by decide +kernel
theorem dX10_folded_55 : decode cX10_folded 55 = .ok (.aload_n 0, 1) := by decide +kernel
theorem dX10_folded_56 : decode cX10_folded 56 = .ok (.getfield 79, 3) := by decide +kernel
theorem dX10_folded_59 : decode cX10_folded 59 = .ok (.iload_n 1, 1) := by decide +kernel
theorem dX10_folded_60 : decode cX10_folded 60 = .ok (.iload_n 3, 1) := by decide +kernel
theorem dX10_folded_61 : decode cX10_folded 61 = .ok (.iconst 1, 1) := by decide +kernel
theorem dX10_folded_62 : decode cX10_folded 62 = .ok (.if_icmp .ne 7, 3) := by decide +kernel
theorem dX10_folded_65 : decode cX10_folded 65 = .ok (.iconst 1, 1) := by decide +kernel
theorem dX10_folded_66 : decode cX10_folded 66 = .ok (.goto 4, 3) := by decide +kernel
theorem dX10_folded_69 : decode cX10_folded 69 = .ok (.iconst 0, 1) := by decide +kernel
theorem dX10_folded_70 : decode cX10_folded 70 = .ok (.invokevirtual 284, 3) := by decide +kernel
theorem dX10_folded_73 : decode cX10_folded 73 = .ok (.ireturn, 1) := by decide +kernel
theorem dX10_duel_0 : decode cX10_duel 0 = .ok (.iload_n 1, 1) := by decide +kernel
theorem dX10_duel_1 : decode cX10_duel 1 = .ok (.iconst 1, 1) := by decide +kernel
theorem dX10_duel_2 : decode cX10_duel 2 = .ok (.if_icmp .lt 19, 3) := by decide +kernel
theorem dX10_duel_5 : decode cX10_duel 5 = .ok (.iload_n 1, 1) := by decide +kernel
theorem dX10_duel_6 : decode cX10_duel 6 = .ok (.bipush 10, 2) := by decide +kernel
theorem dX10_duel_8 : decode cX10_duel 8 = .ok (.idiv, 1) := by decide +kernel
theorem dX10_duel_9 : decode cX10_duel 9 = .ok (.iconst 5, 1) := by decide +kernel
theorem dX10_duel_10 : decode cX10_duel 10 = .ok (.if_icmp .gt 11, 3) := by decide +kernel
theorem dX10_duel_13 : decode cX10_duel 13 = .ok (.iload_n 1, 1) := by decide +kernel
theorem dX10_duel_14 : decode cX10_duel 14 = .ok (.bipush 10, 2) := by decide +kernel
theorem dX10_duel_16 : decode cX10_duel 16 = .ok (.irem, 1) := by decide +kernel
theorem dX10_duel_17 : decode cX10_duel 17 = .ok (.iconst 5, 1) := by decide +kernel
theorem dX10_duel_18 : decode cX10_duel 18 = .ok (.if_icmp .le 5, 3) := by decide +kernel
theorem dX10_duel_21 : decode cX10_duel 21 = .ok (.iconst (-1), 1) := by decide +kernel
theorem dX10_duel_22 : decode cX10_duel 22 = .ok (.ireturn, 1) := by decide +kernel
theorem dX10_duel_23 : decode cX10_duel 23 = .ok (.iload_n 2, 1) := by decide +kernel
theorem dX10_duel_24 : decode cX10_duel 24 = .ok (.iload_n 3, 1) := by decide +kernel
theorem dX10_duel_25 : decode cX10_duel 25 = .ok (.invokestatic 288, 3) := by decide +kernel
theorem dX10_duel_28 : decode cX10_duel 28 = .ok (.bipush 20, 2) := by decide +kernel
theorem dX10_duel_30 : decode cX10_duel 30 = .ok (.if_icmp .gt 13, 3) := by decide +kernel
theorem dX10_duel_33 : decode cX10_duel 33 = .ok (.iload_n 2, 1) := by decide +kernel
theorem dX10_duel_34 : decode cX10_duel 34 = .ok (.iload_n 3, 1) := by decide +kernel
theorem dX10_duel_35 : decode cX10_duel 35 = .ok (.invokestatic 293, 3) := by decide +kernel
theorem dX10_duel_38 : decode cX10_duel 38 = .ok (.bipush (-20), 2) := by decide +kernel
theorem dX10_duel_40 : decode cX10_duel 40 = .ok (.if_icmp .ge 5, 3) := by decide +kernel
theorem dX10_duel_43 : decode cX10_duel 43 = .ok (.iconst (-1), 1) := by decide +kernel
theorem dX10_duel_44 : decode cX10_duel 44 = .ok (.ireturn, 1) := by decide +kernel
theorem dX10_duel_45 : decode cX10_duel 45 = .ok (.aload_n 0, 1) := by decide +kernel
theorem dX10_duel_46 : decode cX10_duel 46 = .ok (.getfield 79, 3) := by decide +kernel
theorem dX10_duel_49 : decode cX10_duel 49 = .ok (.iload_n 1, 1) := by decide +kernel
theorem dX10_duel_50 : decode cX10_duel 50 = .ok (.bipush 10, 2) := by decide +kernel
theorem dX10_duel_52 : decode cX10_duel 52 = .ok (.idiv, 1) := by decide +kernel
theorem dX10_duel_53 : decode cX10_duel 53 = .ok (.iload_n 1, 1) := by decide +kernel
theorem dX10_duel_54 : decode cX10_duel 54 = .ok (.bipush 10, 2) := by decide +kernel
theorem dX10_duel_56 : decode cX10_duel 56 = .ok (.irem, 1) := by decide +kernel
theorem dX10_duel_57 : decode cX10_duel 57 = .ok (.iload_n 2, 1) := by decide +kernel
theorem dX10_duel_58 : decode cX10_duel 58 = .ok (.iload_n 3, 1) := by decide +kernel
theorem dX10_duel_59 : decode cX10_duel 59 = .ok (.invokevirtual 296, 3) := by decide +kernel
theorem dX10_duel_62 : decode cX10_duel 62 = .ok (.ireturn, 1) := by decide +kernel
theorem dX10_ant_0 : decode cX10_ant 0 = .ok (.iload_n 1, 1) := by decide +kernel
theorem dX10_ant_1 : decode cX10_ant 1 = .ok (.ifCond .lt 19, 3) := by decide +kernel
theorem dX10_ant_4 : decode cX10_ant 4 = .ok (.iload_n 1, 1) := by decide +kernel
theorem dX10_ant_5 : decode cX10_ant 5 = .ok (.sipush 2000, 3) := by decide +kernel
theorem dX10_ant_8 : decode cX10_ant 8 = .ok (.if_icmp .gt 12, 3) := by decide +kernel
theorem dX10_ant_11 : decode cX10_ant 11 = .ok (.iload_n 2, 1) := by decide +kernel
theorem dX10_ant_12 : decode cX10_ant 12 = .ok (.ifCond .lt 8, 3) := by decide +kernel
theorem dX10_ant_15 : decode cX10_ant 15 = .ok (.iload_n 2, 1) := by decide +kernel
theorem dX10_ant_16 : decode cX10_ant 16 = .ok (.iconst 3, 1) := by decide +kernel
theorem dX10_ant_17 : decode cX10_ant 17 = .ok (.if_icmp .le 7, 3) := by decide +kernel
theorem dX10_ant_20 : decode cX10_ant 20 = .ok (.sipush (-10000), 3) := by decide +kernel
theorem dX10_ant_23 : decode cX10_ant 23 = .ok (.ireturn, 1) := by decide +kernel
theorem dX10_ant_24 : decode cX10_ant 24 = .ok (.aload_n 0, 1) := by decide +kernel
theorem dX10_ant_25 : decode cX10_ant 25 = .ok (.getfield 79, 3) := by decide +kernel
theorem dX10_ant_28 : decode cX10_ant 28 = .ok (.iload_n 1, 1) := by decide +kernel
theorem dX10_ant_29 : decode cX10_ant 29 = .ok (.iload_n 2, 1) := by decide +kernel
theorem dX10_ant_30 : decode cX10_ant 30 = .ok (.invokevirtual 299, 3) := by decide +kernel
theorem dX10_ant_33 : decode cX10_ant 33 = .ok (.ireturn, 1) := by decide +kernel
theorem dX10_hooks_0 : decode cX10_hooks 0 = .ok (.iload_n 1, 1) := by decide +kernel
theorem dX10_hooks_1 : decode cX10_hooks 1 = .ok (.ifCond .lt 18, 3) := by decide +kernel
theorem dX10_hooks_4 : decode cX10_hooks 4 = .ok (.iload_n 1, 1) := by decide +kernel
theorem dX10_hooks_5 : decode cX10_hooks 5 = .ok (.bipush 40, 2) := by decide +kernel
theorem dX10_hooks_7 : decode cX10_hooks 7 = .ok (.if_icmp .gt 12, 3) := by decide +kernel
theorem dX10_hooks_10 : decode cX10_hooks 10 = .ok (.iload_n 2, 1) := by decide +kernel
theorem dX10_hooks_11 : decode cX10_hooks 11 = .ok (.ifCond .lt 8, 3) := by decide +kernel
theorem dX10_hooks_14 : decode cX10_hooks 14 = .ok (.iload_n 2, 1) := by decide +kernel
theorem dX10_hooks_15 : decode cX10_hooks 15 = .ok (.iconst 1, 1) := by decide +kernel
theorem dX10_hooks_16 : decode cX10_hooks 16 = .ok (.if_icmp .le 5, 3) := by decide +kernel
theorem dX10_hooks_19 : decode cX10_hooks 19 = .ok (.iconst (-1), 1) := by decide +kernel
theorem dX10_hooks_20 : decode cX10_hooks 20 = .ok (.ireturn, 1) := by decide +kernel
theorem dX10_hooks_21 : decode cX10_hooks 21 = .ok (.iload_n 2, 1) := by decide +kernel
theorem dX10_hooks_22 : decode cX10_hooks 22 = .ok (.ifCond .ne 14, 3) := by decide +kernel
theorem dX10_hooks_25 : decode cX10_hooks 25 = .ok (.aload_n 0, 1) := by decide +kernel
theorem dX10_hooks_26 : decode cX10_hooks 26 = .ok (.getfield 79, 3) := by decide +kernel
theorem dX10_hooks_29 : decode cX10_hooks 29 = .ok (.iload_n 1, 1) := by decide +kernel
theorem dX10_hooks_30 : decode cX10_hooks 30 = .ok (.invokevirtual 302, 3) := by decide +kernel
theorem dX10_hooks_33 : decode cX10_hooks 33 = .ok (.goto 11, 3) := by decide +kernel
theorem dX10_hooks_36 : decode cX10_hooks 36 = .ok (.aload_n 0, 1) := by decide +kernel
theorem dX10_hooks_37 : decode cX10_hooks 37 = .ok (.getfield 79, 3) := by decide +kernel
theorem dX10_hooks_40 : decode cX10_hooks 40 = .ok (.iload_n 1, 1) := by decide +kernel
theorem dX10_hooks_41 : decode cX10_hooks 41 = .ok (.invokevirtual 305, 3) := by decide +kernel
theorem dX10_hooks_44 : decode cX10_hooks 44 = .ok (.ireturn, 1) := by decide +kernel
theorem dX10_apart_0 : decode cX10_apart 0 = .ok (.iload_n 1, 1) := by decide +kernel
theorem dX10_apart_1 : decode cX10_apart 1 = .ok (.ifCond .lt 8, 3) := by decide +kernel
theorem dX10_apart_4 : decode cX10_apart 4 = .ok (.iload_n 1, 1) := by decide +kernel
theorem dX10_apart_5 : decode cX10_apart 5 = .ok (.iconst 1, 1) := by decide +kernel
theorem dX10_apart_6 : decode cX10_apart 6 = .ok (.if_icmp .le 7, 3) := by decide +kernel
theorem dX10_apart_9 : decode cX10_apart 9 = .ok (.iconst (-1), 1) := by decide +kernel
theorem dX10_apart_10 : decode cX10_apart 10 = .ok (.goto 10, 3) := by decide +kernel
theorem dX10_apart_13 : decode cX10_apart 13 = .ok (.aload_n 0, 1) := by decide +kernel
theorem dX10_apart_14 : decode cX10_apart 14 = .ok (.getfield 72, 3) := by decide +kernel
theorem dX10_apart_17 : decode cX10_apart 17 = .ok (.invokevirtual 308, 3) := by decide +kernel
theorem dX10_apart_20 : decode cX10_apart 20 = .ok (.ireturn, 1) := by decide +kernel
theorem dX10_gap_0 : decode cX10_gap 0 = .ok (.iload_n 1, 1) := by decide +kernel
theorem dX10_gap_1 : decode cX10_gap 1 = .ok (.iconst (-1), 1) := by decide +kernel
theorem dX10_gap_2 : decode cX10_gap 2 = .ok (.if_icmp .eq 25, 3) := by decide +kernel
theorem dX10_gap_5 : decode cX10_gap 5 = .ok (.iload_n 1, 1) := by decide +kernel
theorem dX10_gap_6 : decode cX10_gap 6 = .ok (.ifCond .lt 19, 3) := by decide +kernel
theorem dX10_gap_9 : decode cX10_gap 9 = .ok (.iload_n 1, 1) := by decide +kernel
theorem dX10_gap_10 : decode cX10_gap 10 = .ok (.bipush 7, 2) := by decide +kernel
theorem dX10_gap_12 : decode cX10_gap 12 = .ok (.if_icmp .gt 13, 3) := by decide +kernel
theorem dX10_gap_15 : decode cX10_gap 15 = .ok (.iload_n 2, 1) := by decide +kernel
theorem dX10_gap_16 : decode cX10_gap 16 = .ok (.ifCond .lt 9, 3) := by decide +kernel
theorem dX10_gap_19 : decode cX10_gap 19 = .ok (.iload_n 2, 1) := by decide +kernel
theorem dX10_gap_20 : decode cX10_gap 20 = .ok (.bipush 30, 2) := by decide +kernel
theorem dX10_gap_22 : decode cX10_gap 22 = .ok (.if_icmp .le 5, 3) := by decide +kernel
theorem dX10_gap_25 : decode cX10_gap 25 = .ok (.iconst (-1), 1) := by decide +kernel
theorem dX10_gap_26 : decode cX10_gap 26 = .ok (.ireturn, 1) := by decide +kernel
theorem dX10_gap_27 : decode cX10_gap 27 = .ok (.aload_n 0, 1) := by decide +kernel
theorem dX10_gap_28 : decode cX10_gap 28 = .ok (.getfield 43, 3) := by decide +kernel
theorem dX10_gap_31 : decode cX10_gap 31 = .ok (.iload_n 1, 1) := by decide +kernel
theorem dX10_gap_32 : decode cX10_gap 32 = .ok (.iload_n 2, 1) := by decide +kernel
theorem dX10_gap_33 : decode cX10_gap 33 = .ok (.invokevirtual 311, 3) := by decide +kernel
theorem dX10_gap_36 : decode cX10_gap 36 = .ok (.ireturn, 1) := by decide +kernel
theorem dX10_hedge_0 : decode cX10_hedge 0 = .ok (.aload_n 0, 1) := by decide +kernel
theorem dX10_hedge_1 : decode cX10_hedge 1 = .ok (.getfield 43, 3) := by decide +kernel
theorem dX10_hedge_4 : decode cX10_hedge 4 = .ok (.invokevirtual 314, 3) := by decide +kernel
theorem dX10_hedge_7 : decode cX10_hedge 7 = .ok (.ireturn, 1) := by decide +kernel
theorem dX10_meets_0 : decode cX10_meets 0 = .ok (.aload_n 0, 1) := by decide +kernel
theorem dX10_meets_1 : decode cX10_meets 1 = .ok (.getfield 10, 3) := by decide +kernel
theorem dX10_meets_4 : decode cX10_meets 4 = .ok (.iload_n 1, 1) := by decide +kernel
theorem dX10_meets_5 : decode cX10_meets 5 = .ok (.invokevirtual 145, 3) := by decide +kernel
theorem dX10_meets_8 : decode cX10_meets 8 = .ok (.ifCond .eq 14, 3) := by decide +kernel
theorem dX10_meets_11 : decode cX10_meets 11 = .ok (.aload_n 0, 1) := by decide +kernel
theorem dX10_meets_12 : decode cX10_meets 12 = .ok (.getfield 10, 3) := by decide +kernel
theorem dX10_meets_15 : decode cX10_meets 15 = .ok (.iload_n 2, 1) := by decide +kernel
theorem dX10_meets_16 : decode cX10_meets 16 = .ok (.invokevirtual 145, 3) := by decide +kernel
theorem dX10_meets_19 : decode cX10_meets 19 = .ok (.ifCond .ne 5, 3) := by decide +kernel
theorem dX10_meets_22 : decode cX10_meets 22 = .ok (.iconst (-1), 1) := by decide +kernel
theorem dX10_meets_23 : decode cX10_meets 23 = .ok (.ireturn, 1) := by decide +kernel
theorem dX10_meets_24 : decode cX10_meets 24 = .ok (.iload_n 1, 1) := by decide +kernel
theorem dX10_meets_25 : decode cX10_meets 25 = .ok (.iload_n 2, 1) := by decide +kernel
theorem dX10_meets_26 : decode cX10_meets 26 = .ok (.if_icmp .ne 7, 3) := by decide +kernel
theorem dX10_meets_29 : decode cX10_meets 29 = .ok (.iconst 0, 1) := by decide +kernel
theorem dX10_meets_30 : decode cX10_meets 30 = .ok (.goto 12, 3) := by decide +kernel
theorem dX10_meets_33 : decode cX10_meets 33 = .ok (.aload_n 0, 1) := by decide +kernel
theorem dX10_meets_34 : decode cX10_meets 34 = .ok (.getfield 59, 3) := by decide +kernel
theorem dX10_meets_37 : decode cX10_meets 37 = .ok (.iload_n 1, 1) := by decide +kernel
theorem dX10_meets_38 : decode cX10_meets 38 = .ok (.iload_n 2, 1) := by decide +kernel
theorem dX10_meets_39 : decode cX10_meets 39 = .ok (.invokevirtual 317, 3) := by decide +kernel
theorem dX10_meets_42 : decode cX10_meets 42 = .ok (.ireturn, 1) := by decide +kernel
theorem dX10_pigeons_0 : decode cX10_pigeons 0 = .ok (.iload_n 1, 1) := by decide +kernel
theorem dX10_pigeons_1 : decode cX10_pigeons 1 = .ok (.tableswitch 53 0 2 #[27, 36, 45], 27) := by decide +kernel
theorem dX10_pigeons_28 : decode cX10_pigeons 28 = .ok (.aload_n 0, 1) := by decide +kernel
theorem dX10_pigeons_29 : decode cX10_pigeons 29 = .ok (.getfield 72, 3) := by decide +kernel
theorem dX10_pigeons_32 : decode cX10_pigeons 32 = .ok (.iconst 0, 1) := by decide +kernel
theorem dX10_pigeons_33 : decode cX10_pigeons 33 = .ok (.invokevirtual 320, 3) := by decide +kernel
theorem dX10_pigeons_36 : decode cX10_pigeons 36 = .ok (.ireturn, 1) := by decide +kernel
theorem dX10_pigeons_37 : decode cX10_pigeons 37 = .ok (.aload_n 0, 1) := by decide +kernel
theorem dX10_pigeons_38 : decode cX10_pigeons 38 = .ok (.getfield 72, 3) := by decide +kernel
theorem dX10_pigeons_41 : decode cX10_pigeons 41 = .ok (.iconst 1, 1) := by decide +kernel
theorem dX10_pigeons_42 : decode cX10_pigeons 42 = .ok (.invokevirtual 320, 3) := by decide +kernel
theorem dX10_pigeons_45 : decode cX10_pigeons 45 = .ok (.ireturn, 1) := by decide +kernel
theorem dX10_pigeons_46 : decode cX10_pigeons 46 = .ok (.aload_n 0, 1) := by decide +kernel
theorem dX10_pigeons_47 : decode cX10_pigeons 47 = .ok (.getfield 72, 3) := by decide +kernel
theorem dX10_pigeons_50 : decode cX10_pigeons 50 = .ok (.invokevirtual 324, 3) := by decide +kernel
theorem dX10_pigeons_53 : decode cX10_pigeons 53 = .ok (.ireturn, 1) := by decide +kernel
theorem dX10_pigeons_54 : decode cX10_pigeons 54 = .ok (.iconst (-1), 1) := by decide +kernel
theorem dX10_pigeons_55 : decode cX10_pigeons 55 = .ok (.ireturn, 1) := by decide +kernel
theorem dX10_game_0 : decode cX10_game 0 = .ok (.iload_n 1, 1) := by decide +kernel
theorem dX10_game_1 : decode cX10_game 1 = .ok (.ifCond .lt 19, 3) := by decide +kernel
theorem dX10_game_4 : decode cX10_game 4 = .ok (.iload_n 1, 1) := by decide +kernel
theorem dX10_game_5 : decode cX10_game 5 = .ok (.bipush 30, 2) := by decide +kernel
theorem dX10_game_7 : decode cX10_game 7 = .ok (.if_icmp .gt 13, 3) := by decide +kernel
theorem dX10_game_10 : decode cX10_game 10 = .ok (.iload_n 2, 1) := by decide +kernel
theorem dX10_game_11 : decode cX10_game 11 = .ok (.ifCond .lt 9, 3) := by decide +kernel
theorem dX10_game_14 : decode cX10_game 14 = .ok (.iload_n 2, 1) := by decide +kernel
theorem dX10_game_15 : decode cX10_game 15 = .ok (.bipush 30, 2) := by decide +kernel
theorem dX10_game_17 : decode cX10_game 17 = .ok (.if_icmp .le 5, 3) := by decide +kernel
theorem dX10_game_20 : decode cX10_game 20 = .ok (.iconst (-1), 1) := by decide +kernel
theorem dX10_game_21 : decode cX10_game 21 = .ok (.ireturn, 1) := by decide +kernel
theorem dX10_game_22 : decode cX10_game 22 = .ok (.iload_n 3, 1) := by decide +kernel
theorem dX10_game_23 : decode cX10_game 23 = .ok (.lookupswitch 45 #[(0, 25), (1, 35)], 25) := by decide +kernel
theorem dX10_game_48 : decode cX10_game 48 = .ok (.aload_n 0, 1) := by decide +kernel
theorem dX10_game_49 : decode cX10_game 49 = .ok (.getfield 79, 3) := by decide +kernel
theorem dX10_game_52 : decode cX10_game 52 = .ok (.iload_n 1, 1) := by decide +kernel
theorem dX10_game_53 : decode cX10_game 53 = .ok (.iload_n 2, 1) := by decide +kernel
theorem dX10_game_54 : decode cX10_game 54 = .ok (.invokevirtual 327, 3) := by decide +kernel
theorem dX10_game_57 : decode cX10_game 57 = .ok (.ireturn, 1) := by decide +kernel
theorem dX10_game_58 : decode cX10_game 58 = .ok (.aload_n 0, 1) := by decide +kernel
theorem dX10_game_59 : decode cX10_game 59 = .ok (.getfield 79, 3) := by decide +kernel
theorem dX10_game_62 : decode cX10_game 62 = .ok (.iload_n 1, 1) := by decide +kernel
theorem dX10_game_63 : decode cX10_game 63 = .ok (.iload_n 2, 1) := by decide +kernel
theorem dX10_game_64 : decode cX10_game 64 = .ok (.invokevirtual 330, 3) := by decide +kernel
theorem dX10_game_67 : decode cX10_game 67 = .ok (.ireturn, 1) := by decide +kernel
theorem dX10_game_68 : decode cX10_game 68 = .ok (.iconst (-1), 1) := by decide +kernel
theorem dX10_game_69 : decode cX10_game 69 = .ok (.ireturn, 1) := by decide +kernel
theorem dX10_undo_0 : decode cX10_undo 0 = .ok (.aload_n 0, 1) := by decide +kernel
theorem dX10_undo_1 : decode cX10_undo 1 = .ok (.getfield 333, 3) := by decide +kernel
theorem dX10_undo_4 : decode cX10_undo 4 = .ok (.ifCond .gt 5, 3) := by decide +kernel
theorem dX10_undo_7 : decode cX10_undo 7 = .ok (.iconst 0, 1) := by decide +kernel
theorem dX10_undo_8 : decode cX10_undo 8 = .ok (.ireturn, 1) := by decide +kernel
theorem dX10_undo_9 : decode cX10_undo 9 = .ok (.aload_n 0, 1) := by decide +kernel
theorem dX10_undo_10 : decode cX10_undo 10 = .ok (.dup, 1) := by decide +kernel
theorem dX10_undo_11 : decode cX10_undo 11 = .ok (.getfield 333, 3) := by decide +kernel
theorem dX10_undo_14 : decode cX10_undo 14 = .ok (.iconst 1, 1) := by decide +kernel
theorem dX10_undo_15 : decode cX10_undo 15 = .ok (.isub, 1) := by decide +kernel
theorem dX10_undo_16 : decode cX10_undo 16 = .ok (.putfield 333, 3) := by decide +kernel
theorem dX10_undo_19 : decode cX10_undo 19 = .ok (.aload_n 0, 1) := by decide +kernel
theorem dX10_undo_20 : decode cX10_undo 20 = .ok (.getfield 10, 3) := by decide +kernel
theorem dX10_undo_23 : decode cX10_undo 23 = .ok (.aload_n 0, 1) := by decide +kernel
theorem dX10_undo_24 : decode cX10_undo 24 = .ok (.getfield 19, 3) := by decide +kernel
theorem dX10_undo_27 : decode cX10_undo 27 = .ok (.aload_n 0, 1) := by decide +kernel
theorem dX10_undo_28 : decode cX10_undo 28 = .ok (.getfield 336, 3) := by decide +kernel
theorem dX10_undo_31 : decode cX10_undo 31 = .ok (.aload_n 0, 1) := by decide +kernel
theorem dX10_undo_32 : decode cX10_undo 32 = .ok (.getfield 333, 3) := by decide +kernel
theorem dX10_undo_35 : decode cX10_undo 35 = .ok (.iadd, 1) := by decide +kernel
theorem dX10_undo_36 : decode cX10_undo 36 = .ok (.bipush 6, 2) := by decide +kernel
theorem dX10_undo_38 : decode cX10_undo 38 = .ok (.irem, 1) := by decide +kernel
theorem dX10_undo_39 : decode cX10_undo 39 = .ok (.aaload, 1) := by decide +kernel
theorem dX10_undo_40 : decode cX10_undo 40 = .ok (.invokevirtual 339, 3) := by decide +kernel
theorem dX10_undo_43 : decode cX10_undo 43 = .ok (.iconst 1, 1) := by decide +kernel
theorem dX10_undo_44 : decode cX10_undo 44 = .ok (.ireturn, 1) := by decide +kernel
theorem dX10_image_0 : decode cX10_image 0 = .ok (.iload_n 1, 1) := by decide +kernel
theorem dX10_image_1 : decode cX10_image 1 = .ok (.ifCond .eq 54, 3) := by decide +kernel
theorem dX10_image_4 : decode cX10_image 4 = .ok (.aload_n 0, 1) := by decide +kernel
theorem dX10_image_5 : decode cX10_image 5 = .ok (.iconst 1, 1) := by decide +kernel
theorem dX10_image_6 : decode cX10_image 6 = .ok (.putfield 343, 3) := by decide +kernel
theorem dX10_image_9 : decode cX10_image 9 = .ok (.aload_n 0, 1) := by decide +kernel
theorem dX10_image_10 : decode cX10_image 10 = .ok (.getfield 83, 3) := by decide +kernel
theorem dX10_image_13 : decode cX10_image 13 = .ok (.aload_n 0, 1) := by decide +kernel
theorem dX10_image_14 : decode cX10_image 14 = .ok (.getfield 10, 3) := by decide +kernel
theorem dX10_image_17 : decode cX10_image 17 = .ok (.invokevirtual 339, 3) := by decide +kernel
theorem dX10_image_20 : decode cX10_image 20 = .ok (.aload_n 0, 1) := by decide +kernel
theorem dX10_image_21 : decode cX10_image 21 = .ok (.getfield 86, 3) := by decide +kernel
theorem dX10_image_24 : decode cX10_image 24 = .ok (.aload_n 0, 1) := by decide +kernel
theorem dX10_image_25 : decode cX10_image 25 = .ok (.getfield 26, 3) := by decide +kernel
theorem dX10_image_28 : decode cX10_image 28 = .ok (.invokevirtual 346, 3) := by decide +kernel
theorem dX10_image_31 : decode cX10_image 31 = .ok (.aload_n 0, 1) := by decide +kernel
theorem dX10_image_32 : decode cX10_image 32 = .ok (.getfield 89, 3) := by decide +kernel
theorem dX10_image_35 : decode cX10_image 35 = .ok (.aload_n 0, 1) := by decide +kernel
theorem dX10_image_36 : decode cX10_image 36 = .ok (.getfield 36, 3) := by decide +kernel
theorem dX10_image_39 : decode cX10_image 39 = .ok (.invokevirtual 349, 3) := by decide +kernel
theorem dX10_image_42 : decode cX10_image 42 = .ok (.aload_n 0, 1) := by decide +kernel
theorem dX10_image_43 : decode cX10_image 43 = .ok (.getfield 92, 3) := by decide +kernel
theorem dX10_image_46 : decode cX10_image 46 = .ok (.aload_n 0, 1) := by decide +kernel
theorem dX10_image_47 : decode cX10_image 47 = .ok (.getfield 43, 3) := by decide +kernel
theorem dX10_image_50 : decode cX10_image 50 = .ok (.invokevirtual 352, 3) := by decide +kernel
theorem dX10_image_53 : decode cX10_image 53 = .ok (.iconst 1, 1) := by decide +kernel
theorem dX10_image_54 : decode cX10_image 54 = .ok (.ireturn, 1) := by decide +kernel
theorem dX10_image_55 : decode cX10_image 55 = .ok (.aload_n 0, 1) := by decide +kernel
theorem dX10_image_56 : decode cX10_image 56 = .ok (.getfield 343, 3) := by decide +kernel
theorem dX10_image_59 : decode cX10_image 59 = .ok (.ifCond .ne 5, 3) := by decide +kernel
theorem dX10_image_62 : decode cX10_image 62 = .ok (.iconst 0, 1) := by decide +kernel
theorem dX10_image_63 : decode cX10_image 63 = .ok (.ireturn, 1) := by decide +kernel
theorem dX10_image_64 : decode cX10_image 64 = .ok (.aload_n 0, 1) := by decide +kernel
theorem dX10_image_65 : decode cX10_image 65 = .ok (.getfield 10, 3) := by decide +kernel
theorem dX10_image_68 : decode cX10_image 68 = .ok (.aload_n 0, 1) := by decide +kernel
theorem dX10_image_69 : decode cX10_image 69 = .ok (.getfield 83, 3) := by decide +kernel
theorem dX10_image_72 : decode cX10_image 72 = .ok (.invokevirtual 339, 3) := by decide +kernel
theorem dX10_image_75 : decode cX10_image 75 = .ok (.aload_n 0, 1) := by decide +kernel
theorem dX10_image_76 : decode cX10_image 76 = .ok (.getfield 26, 3) := by decide +kernel
theorem dX10_image_79 : decode cX10_image 79 = .ok (.aload_n 0, 1) := by decide +kernel
theorem dX10_image_80 : decode cX10_image 80 = .ok (.getfield 86, 3) := by decide +kernel
theorem dX10_image_83 : decode cX10_image 83 = .ok (.invokevirtual 346, 3) := by decide +kernel
theorem dX10_image_86 : decode cX10_image 86 = .ok (.aload_n 0, 1) := by decide +kernel
theorem dX10_image_87 : decode cX10_image 87 = .ok (.getfield 36, 3) := by decide +kernel
theorem dX10_image_90 : decode cX10_image 90 = .ok (.aload_n 0, 1) := by decide +kernel
theorem dX10_image_91 : decode cX10_image 91 = .ok (.getfield 89, 3) := by decide +kernel
theorem dX10_image_94 : decode cX10_image 94 = .ok (.invokevirtual 349, 3) := by decide +kernel
theorem dX10_image_97 : decode cX10_image 97 = .ok (.aload_n 0, 1) := by decide +kernel
theorem dX10_image_98 : decode cX10_image 98 = .ok (.getfield 43, 3) := by decide +kernel
theorem dX10_image_101 : decode cX10_image 101 = .ok (.aload_n 0, 1) := by decide +kernel
theorem dX10_image_102 : decode cX10_image 102 = .ok (.getfield 92, 3) := by decide +kernel
theorem dX10_image_105 : decode cX10_image 105 = .ok (.invokevirtual 352, 3) := by decide +kernel
theorem dX10_image_108 : decode cX10_image 108 = .ok (.aload_n 0, 1) := by decide +kernel
theorem dX10_image_109 : decode cX10_image 109 = .ok (.invokevirtual 99, 3) := by decide +kernel
theorem dX10_image_112 : decode cX10_image 112 = .ok (.iconst 1, 1) := by decide +kernel
theorem dX10_image_113 : decode cX10_image 113 = .ok (.ireturn, 1) := by decide +kernel
theorem dX10_look_0 : decode cX10_look 0 = .ok (.iload_n 1, 1) := by decide +kernel
theorem dX10_look_1 : decode cX10_look 1 = .ok (.tableswitch 164 0 11 #[63, 71, 79, 87, 95, 103, 111, 119, 129, 139, 149, 159], 63) := by decide +kernel
theorem dX10_look_64 : decode cX10_look 64 = .ok (.aload_n 0, 1) := by decide +kernel
theorem dX10_look_65 : decode cX10_look 65 = .ok (.getfield 10, 3) := by decide +kernel
theorem dX10_look_68 : decode cX10_look 68 = .ok (.getfield 102, 3) := by decide +kernel
theorem dX10_look_71 : decode cX10_look 71 = .ok (.ireturn, 1) := by decide +kernel
theorem dX10_look_72 : decode cX10_look 72 = .ok (.aload_n 0, 1) := by decide +kernel
theorem dX10_look_73 : decode cX10_look 73 = .ok (.getfield 10, 3) := by decide +kernel
theorem dX10_look_76 : decode cX10_look 76 = .ok (.invokevirtual 355, 3) := by decide +kernel
theorem dX10_look_79 : decode cX10_look 79 = .ok (.ireturn, 1) := by decide +kernel
theorem dX10_look_80 : decode cX10_look 80 = .ok (.aload_n 0, 1) := by decide +kernel
theorem dX10_look_81 : decode cX10_look 81 = .ok (.getfield 10, 3) := by decide +kernel
theorem dX10_look_84 : decode cX10_look 84 = .ok (.getfield 151, 3) := by decide +kernel
theorem dX10_look_87 : decode cX10_look 87 = .ok (.ireturn, 1) := by decide +kernel
theorem dX10_look_88 : decode cX10_look 88 = .ok (.aload_n 0, 1) := by decide +kernel
theorem dX10_look_89 : decode cX10_look 89 = .ok (.getfield 10, 3) := by decide +kernel
theorem dX10_look_92 : decode cX10_look 92 = .ok (.getfield 358, 3) := by decide +kernel
theorem dX10_look_95 : decode cX10_look 95 = .ok (.ireturn, 1) := by decide +kernel
theorem dX10_look_96 : decode cX10_look 96 = .ok (.aload_n 0, 1) := by decide +kernel
theorem dX10_look_97 : decode cX10_look 97 = .ok (.getfield 10, 3) := by decide +kernel
theorem dX10_look_100 : decode cX10_look 100 = .ok (.invokevirtual 361, 3) := by decide +kernel
theorem dX10_look_103 : decode cX10_look 103 = .ok (.ireturn, 1) := by decide +kernel
theorem dX10_look_104 : decode cX10_look 104 = .ok (.aload_n 0, 1) := by decide +kernel
theorem dX10_look_105 : decode cX10_look 105 = .ok (.getfield 10, 3) := by decide +kernel
theorem dX10_look_108 : decode cX10_look 108 = .ok (.getfield 218, 3) := by decide +kernel
theorem dX10_look_111 : decode cX10_look 111 = .ok (.ireturn, 1) := by decide +kernel
theorem dX10_look_112 : decode cX10_look 112 = .ok (.aload_n 0, 1) := by decide +kernel
theorem dX10_look_113 : decode cX10_look 113 = .ok (.getfield 10, 3) := by decide +kernel
theorem dX10_look_116 : decode cX10_look 116 = .ok (.getfield 95, 3) := by decide +kernel
theorem dX10_look_119 : decode cX10_look 119 = .ok (.ireturn, 1) := by decide +kernel
theorem dX10_look_120 : decode cX10_look 120 = .ok (.aload_n 0, 1) := by decide +kernel
theorem dX10_look_121 : decode cX10_look 121 = .ok (.getfield 26, 3) := by decide +kernel
theorem dX10_look_124 : decode cX10_look 124 = .ok (.getfield 364, 3) := by decide +kernel
theorem dX10_look_127 : decode cX10_look 127 = .ok (.iconst 0, 1) := by decide +kernel
theorem dX10_look_128 : decode cX10_look 128 = .ok (.iaload, 1) := by decide +kernel
theorem dX10_look_129 : decode cX10_look 129 = .ok (.ireturn, 1) := by decide +kernel
theorem dX10_look_130 : decode cX10_look 130 = .ok (.aload_n 0, 1) := by decide +kernel
theorem dX10_look_131 : decode cX10_look 131 = .ok (.getfield 26, 3) := by decide +kernel
theorem dX10_look_134 : decode cX10_look 134 = .ok (.getfield 364, 3) := by decide +kernel
theorem dX10_look_137 : decode cX10_look 137 = .ok (.iconst 1, 1) := by decide +kernel
theorem dX10_look_138 : decode cX10_look 138 = .ok (.iaload, 1) := by decide +kernel
theorem dX10_look_139 : decode cX10_look 139 = .ok (.ireturn, 1) := by decide +kernel
theorem dX10_look_140 : decode cX10_look 140 = .ok (.aload_n 0, 1) := by decide +kernel
theorem dX10_look_141 : decode cX10_look 141 = .ok (.getfield 26, 3) := by decide +kernel
theorem dX10_look_144 : decode cX10_look 144 = .ok (.getfield 364, 3) := by decide +kernel
theorem dX10_look_147 : decode cX10_look 147 = .ok (.iconst 2, 1) := by decide +kernel
theorem dX10_look_148 : decode cX10_look 148 = .ok (.iaload, 1) := by decide +kernel
theorem dX10_look_149 : decode cX10_look 149 = .ok (.ireturn, 1) := by decide +kernel
theorem dX10_look_150 : decode cX10_look 150 = .ok (.aload_n 0, 1) := by decide +kernel
theorem dX10_look_151 : decode cX10_look 151 = .ok (.getfield 26, 3) := by decide +kernel
theorem dX10_look_154 : decode cX10_look 154 = .ok (.getfield 364, 3) := by decide +kernel
theorem dX10_look_157 : decode cX10_look 157 = .ok (.iconst 3, 1) := by decide +kernel
theorem dX10_look_158 : decode cX10_look 158 = .ok (.iaload, 1) := by decide +kernel
theorem dX10_look_159 : decode cX10_look 159 = .ok (.ireturn, 1) := by decide +kernel
theorem dX10_look_160 : decode cX10_look 160 = .ok (.aload_n 0, 1) := by decide +kernel
theorem dX10_look_161 : decode cX10_look 161 = .ok (.getfield 333, 3) := by decide +kernel
theorem dX10_look_164 : decode cX10_look 164 = .ok (.ireturn, 1) := by decide +kernel
theorem dX10_look_165 : decode cX10_look 165 = .ok (.iconst (-1), 1) := by decide +kernel
theorem dX10_look_166 : decode cX10_look 166 = .ok (.ireturn, 1) := by decide +kernel
theorem dX10_settle_0 : decode cX10_settle 0 = .ok (.iload_n 2, 1) := by decide +kernel
theorem dX10_settle_1 : decode cX10_settle 1 = .ok (.iconst (-1), 1) := by decide +kernel
theorem dX10_settle_2 : decode cX10_settle 2 = .ok (.if_icmp .ne 5, 3) := by decide +kernel
theorem dX10_settle_5 : decode cX10_settle 5 = .ok (.iconst (-1), 1) := by decide +kernel
theorem dX10_settle_6 : decode cX10_settle 6 = .ok (.ireturn, 1) := by decide +kernel
theorem dX10_settle_7 : decode cX10_settle 7 = .ok (.aload_n 0, 1) := by decide +kernel
theorem dX10_settle_8 : decode cX10_settle 8 = .ok (.getfield 30, 3) := by decide +kernel
theorem dX10_settle_11 : decode cX10_settle 11 = .ok (.getfield 364, 3) := by decide +kernel
theorem dX10_settle_14 : decode cX10_settle 14 = .ok (.iload_n 1, 1) := by decide +kernel
theorem dX10_settle_15 : decode cX10_settle 15 = .ok (.iload_n 2, 1) := by decide +kernel
theorem dX10_settle_16 : decode cX10_settle 16 = .ok (.iastore, 1) := by decide +kernel
theorem dX10_settle_17 : decode cX10_settle 17 = .ok (.aload_n 0, 1) := by decide +kernel
theorem dX10_settle_18 : decode cX10_settle 18 = .ok (.getfield 26, 3) := by decide +kernel
theorem dX10_settle_21 : decode cX10_settle 21 = .ok (.iload_n 1, 1) := by decide +kernel
theorem dX10_settle_22 : decode cX10_settle 22 = .ok (.aload_n 0, 1) := by decide +kernel
theorem dX10_settle_23 : decode cX10_settle 23 = .ok (.getfield 30, 3) := by decide +kernel
theorem dX10_settle_26 : decode cX10_settle 26 = .ok (.invokevirtual 367, 3) := by decide +kernel
theorem dX10_settle_29 : decode cX10_settle 29 = .ok (.iload_n 1, 1) := by decide +kernel
theorem dX10_settle_30 : decode cX10_settle 30 = .ok (.ifCond .eq 7, 3) := by decide +kernel
theorem dX10_settle_33 : decode cX10_settle 33 = .ok (.aload_n 0, 1) := by decide +kernel
theorem dX10_settle_34 : decode cX10_settle 34 = .ok (.invokevirtual 99, 3) := by decide +kernel
theorem dX10_settle_37 : decode cX10_settle 37 = .ok (.iload_n 1, 1) := by decide +kernel
theorem dX10_settle_38 : decode cX10_settle 38 = .ok (.iconst 1, 1) := by decide +kernel
theorem dX10_settle_39 : decode cX10_settle 39 = .ok (.if_icmp .ne 20, 3) := by decide +kernel
theorem dX10_settle_42 : decode cX10_settle 42 = .ok (.aload_n 0, 1) := by decide +kernel
theorem dX10_settle_43 : decode cX10_settle 43 = .ok (.getfield 10, 3) := by decide +kernel
theorem dX10_settle_46 : decode cX10_settle 46 = .ok (.aload_n 0, 1) := by decide +kernel
theorem dX10_settle_47 : decode cX10_settle 47 = .ok (.getfield 26, 3) := by decide +kernel
theorem dX10_settle_50 : decode cX10_settle 50 = .ok (.getfield 371, 3) := by decide +kernel
theorem dX10_settle_53 : decode cX10_settle 53 = .ok (.invokevirtual 373, 3) := by decide +kernel
theorem dX10_settle_56 : decode cX10_settle 56 = .ok (.goto 15, 3) := by decide +kernel
theorem dX10_settle_59 : decode cX10_settle 59 = .ok (.iload_n 1, 1) := by decide +kernel
theorem dX10_settle_60 : decode cX10_settle 60 = .ok (.iconst 2, 1) := by decide +kernel
theorem dX10_settle_61 : decode cX10_settle 61 = .ok (.if_icmp .ne 10, 3) := by decide +kernel
theorem dX10_settle_64 : decode cX10_settle 64 = .ok (.aload_n 0, 1) := by decide +kernel
theorem dX10_settle_65 : decode cX10_settle 65 = .ok (.getfield 10, 3) := by decide +kernel
theorem dX10_settle_68 : decode cX10_settle 68 = .ok (.invokevirtual 376, 3) := by decide +kernel
theorem dX10_settle_71 : decode cX10_settle 71 = .ok (.iload_n 2, 1) := by decide +kernel
theorem dX10_settle_72 : decode cX10_settle 72 = .ok (.ireturn, 1) := by decide +kernel
theorem dX10_whereOf_0 : decode cX10_whereOf 0 = .ok (.iload_n 1, 1) := by decide +kernel
theorem dX10_whereOf_1 : decode cX10_whereOf 1 = .ok (.tableswitch 60 2 6 #[35, 40, 45, 50, 55], 35) := by decide +kernel
theorem dX10_whereOf_36 : decode cX10_whereOf 36 = .ok (.aload_n 0, 1) := by decide +kernel
theorem dX10_whereOf_37 : decode cX10_whereOf 37 = .ok (.getfield 379, 3) := by decide +kernel
theorem dX10_whereOf_40 : decode cX10_whereOf 40 = .ok (.ireturn, 1) := by decide +kernel
theorem dX10_whereOf_41 : decode cX10_whereOf 41 = .ok (.aload_n 0, 1) := by decide +kernel
theorem dX10_whereOf_42 : decode cX10_whereOf 42 = .ok (.getfield 382, 3) := by decide +kernel
theorem dX10_whereOf_45 : decode cX10_whereOf 45 = .ok (.ireturn, 1) := by decide +kernel
theorem dX10_whereOf_46 : decode cX10_whereOf 46 = .ok (.aload_n 0, 1) := by decide +kernel
theorem dX10_whereOf_47 : decode cX10_whereOf 47 = .ok (.getfield 385, 3) := by decide +kernel
theorem dX10_whereOf_50 : decode cX10_whereOf 50 = .ok (.ireturn, 1) := by decide +kernel
theorem dX10_whereOf_51 : decode cX10_whereOf 51 = .ok (.aload_n 0, 1) := by decide +kernel
theorem dX10_whereOf_52 : decode cX10_whereOf 52 = .ok (.getfield 388, 3) := by decide +kernel
theorem dX10_whereOf_55 : decode cX10_whereOf 55 = .ok (.ireturn, 1) := by decide +kernel
theorem dX10_whereOf_56 : decode cX10_whereOf 56 = .ok (.aload_n 0, 1) := by decide +kernel
theorem dX10_whereOf_57 : decode cX10_whereOf 57 = .ok (.getfield 391, 3) := by decide +kernel
theorem dX10_whereOf_60 : decode cX10_whereOf 60 = .ok (.ireturn, 1) := by decide +kernel
theorem dX10_whereOf_61 : decode cX10_whereOf 61 = .ok (.aload_n 0, 1) := by decide +kernel
theorem dX10_whereOf_62 : decode cX10_whereOf 62 = .ok (.getfield 394, 3) := by decide +kernel
theorem dX10_whereOf_65 : decode cX10_whereOf 65 = .ok (.ireturn, 1) := by decide +kernel
theorem dX10_inRow_0 : decode cX10_inRow 0 = .ok (.iload_n 0, 1) := by decide +kernel
theorem dX10_inRow_1 : decode cX10_inRow 1 = .ok (.ifCond .lt 13, 3) := by decide +kernel
theorem dX10_inRow_4 : decode cX10_inRow 4 = .ok (.iload_n 0, 1) := by decide +kernel
theorem dX10_inRow_5 : decode cX10_inRow 5 = .ok (.bipush 12, 2) := by decide +kernel
theorem dX10_inRow_7 : decode cX10_inRow 7 = .ok (.if_icmp .ge 7, 3) := by decide +kernel
theorem dX10_inRow_10 : decode cX10_inRow 10 = .ok (.iconst 1, 1) := by decide +kernel
theorem dX10_inRow_11 : decode cX10_inRow 11 = .ok (.goto 4, 3) := by decide +kernel
theorem dX10_inRow_14 : decode cX10_inRow 14 = .ok (.iconst 0, 1) := by decide +kernel
theorem dX10_inRow_15 : decode cX10_inRow 15 = .ok (.ireturn, 1) := by decide +kernel
theorem dX10_isCell_0 : decode cX10_isCell 0 = .ok (.iload_n 0, 1) := by decide +kernel
theorem dX10_isCell_1 : decode cX10_isCell 1 = .ok (.ifCond .lt 14, 3) := by decide +kernel
theorem dX10_isCell_4 : decode cX10_isCell 4 = .ok (.iload_n 0, 1) := by decide +kernel
theorem dX10_isCell_5 : decode cX10_isCell 5 = .ok (.sipush 144, 3) := by decide +kernel
theorem dX10_isCell_8 : decode cX10_isCell 8 = .ok (.if_icmp .ge 7, 3) := by decide +kernel
theorem dX10_isCell_11 : decode cX10_isCell 11 = .ok (.iconst 1, 1) := by decide +kernel
theorem dX10_isCell_12 : decode cX10_isCell 12 = .ok (.goto 4, 3) := by decide +kernel
theorem dX10_isCell_15 : decode cX10_isCell 15 = .ok (.iconst 0, 1) := by decide +kernel
theorem dX10_isCell_16 : decode cX10_isCell 16 = .ok (.ireturn, 1) := by decide +kernel
theorem dX10_entry_0 : decode cX10_entry 0 = .ok (.iload_n 0, 1) := by decide +kernel
theorem dX10_entry_1 : decode cX10_entry 1 = .ok (.tableswitch 40 0 2 #[27, 29, 34], 27) := by decide +kernel
theorem dX10_entry_28 : decode cX10_entry 28 = .ok (.iload_n 1, 1) := by decide +kernel
theorem dX10_entry_29 : decode cX10_entry 29 = .ok (.ireturn, 1) := by decide +kernel
theorem dX10_entry_30 : decode cX10_entry 30 = .ok (.bipush 12, 2) := by decide +kernel
theorem dX10_entry_32 : decode cX10_entry 32 = .ok (.iload_n 1, 1) := by decide +kernel
theorem dX10_entry_33 : decode cX10_entry 33 = .ok (.imul, 1) := by decide +kernel
theorem dX10_entry_34 : decode cX10_entry 34 = .ok (.ireturn, 1) := by decide +kernel
theorem dX10_entry_35 : decode cX10_entry 35 = .ok (.sipush 132, 3) := by decide +kernel
theorem dX10_entry_38 : decode cX10_entry 38 = .ok (.iload_n 1, 1) := by decide +kernel
theorem dX10_entry_39 : decode cX10_entry 39 = .ok (.iadd, 1) := by decide +kernel
theorem dX10_entry_40 : decode cX10_entry 40 = .ok (.ireturn, 1) := by decide +kernel
theorem dX10_entry_41 : decode cX10_entry 41 = .ok (.bipush 12, 2) := by decide +kernel
theorem dX10_entry_43 : decode cX10_entry 43 = .ok (.iload_n 1, 1) := by decide +kernel
theorem dX10_entry_44 : decode cX10_entry 44 = .ok (.imul, 1) := by decide +kernel
theorem dX10_entry_45 : decode cX10_entry 45 = .ok (.bipush 12, 2) := by decide +kernel
theorem dX10_entry_47 : decode cX10_entry 47 = .ok (.iadd, 1) := by decide +kernel
theorem dX10_entry_48 : decode cX10_entry 48 = .ok (.iconst 1, 1) := by decide +kernel
theorem dX10_entry_49 : decode cX10_entry 49 = .ok (.isub, 1) := by decide +kernel
theorem dX10_entry_50 : decode cX10_entry 50 = .ok (.ireturn, 1) := by decide +kernel
theorem dX10_keep_0 : decode cX10_keep 0 = .ok (.aload_n 0, 1) := by decide +kernel
theorem dX10_keep_1 : decode cX10_keep 1 = .ok (.getfield 333, 3) := by decide +kernel
theorem dX10_keep_4 : decode cX10_keep 4 = .ok (.bipush 6, 2) := by decide +kernel
theorem dX10_keep_6 : decode cX10_keep 6 = .ok (.if_icmp .ne 26, 3) := by decide +kernel
theorem dX10_keep_9 : decode cX10_keep 9 = .ok (.aload_n 0, 1) := by decide +kernel
theorem dX10_keep_10 : decode cX10_keep 10 = .ok (.aload_n 0, 1) := by decide +kernel
theorem dX10_keep_11 : decode cX10_keep 11 = .ok (.getfield 336, 3) := by decide +kernel
theorem dX10_keep_14 : decode cX10_keep 14 = .ok (.iconst 1, 1) := by decide +kernel
theorem dX10_keep_15 : decode cX10_keep 15 = .ok (.iadd, 1) := by decide +kernel
theorem dX10_keep_16 : decode cX10_keep 16 = .ok (.bipush 6, 2) := by decide +kernel
theorem dX10_keep_18 : decode cX10_keep 18 = .ok (.irem, 1) := by decide +kernel
theorem dX10_keep_19 : decode cX10_keep 19 = .ok (.putfield 336, 3) := by decide +kernel
theorem dX10_keep_22 : decode cX10_keep 22 = .ok (.aload_n 0, 1) := by decide +kernel
theorem dX10_keep_23 : decode cX10_keep 23 = .ok (.dup, 1) := by decide +kernel
theorem dX10_keep_24 : decode cX10_keep 24 = .ok (.getfield 333, 3) := by decide +kernel
theorem dX10_keep_27 : decode cX10_keep 27 = .ok (.iconst 1, 1) := by decide +kernel
theorem dX10_keep_28 : decode cX10_keep 28 = .ok (.isub, 1) := by decide +kernel
theorem dX10_keep_29 : decode cX10_keep 29 = .ok (.putfield 333, 3) := by decide +kernel
theorem dX10_keep_32 : decode cX10_keep 32 = .ok (.aload_n 0, 1) := by decide +kernel
theorem dX10_keep_33 : decode cX10_keep 33 = .ok (.getfield 19, 3) := by decide +kernel
theorem dX10_keep_36 : decode cX10_keep 36 = .ok (.aload_n 0, 1) := by decide +kernel
theorem dX10_keep_37 : decode cX10_keep 37 = .ok (.getfield 336, 3) := by decide +kernel
theorem dX10_keep_40 : decode cX10_keep 40 = .ok (.aload_n 0, 1) := by decide +kernel
theorem dX10_keep_41 : decode cX10_keep 41 = .ok (.getfield 333, 3) := by decide +kernel
theorem dX10_keep_44 : decode cX10_keep 44 = .ok (.iadd, 1) := by decide +kernel
theorem dX10_keep_45 : decode cX10_keep 45 = .ok (.bipush 6, 2) := by decide +kernel
theorem dX10_keep_47 : decode cX10_keep 47 = .ok (.irem, 1) := by decide +kernel
theorem dX10_keep_48 : decode cX10_keep 48 = .ok (.aaload, 1) := by decide +kernel
theorem dX10_keep_49 : decode cX10_keep 49 = .ok (.aload_n 0, 1) := by decide +kernel
theorem dX10_keep_50 : decode cX10_keep 50 = .ok (.getfield 10, 3) := by decide +kernel
theorem dX10_keep_53 : decode cX10_keep 53 = .ok (.invokevirtual 339, 3) := by decide +kernel
theorem dX10_keep_56 : decode cX10_keep 56 = .ok (.aload_n 0, 1) := by decide +kernel
theorem dX10_keep_57 : decode cX10_keep 57 = .ok (.dup, 1) := by decide +kernel
theorem dX10_keep_58 : decode cX10_keep 58 = .ok (.getfield 333, 3) := by decide +kernel
theorem dX10_keep_61 : decode cX10_keep 61 = .ok (.iconst 1, 1) := by decide +kernel
theorem dX10_keep_62 : decode cX10_keep 62 = .ok (.iadd, 1) := by decide +kernel
theorem dX10_keep_63 : decode cX10_keep 63 = .ok (.putfield 333, 3) := by decide +kernel
theorem dX10_keep_66 : decode cX10_keep 66 = .ok (.return_, 1) := by decide +kernel
theorem dX10_forget_0 : decode cX10_forget 0 = .ok (.aload_n 0, 1) := by decide +kernel
theorem dX10_forget_1 : decode cX10_forget 1 = .ok (.iconst 0, 1) := by decide +kernel
theorem dX10_forget_2 : decode cX10_forget 2 = .ok (.putfield 333, 3) := by decide +kernel
theorem dX10_forget_5 : decode cX10_forget 5 = .ok (.return_, 1) := by decide +kernel
theorem dX10_beginThought_0 : decode cX10_beginThought 0 = .ok (.aload_n 0, 1) := by decide +kernel
theorem dX10_beginThought_1 : decode cX10_beginThought 1 = .ok (.getfield 16, 3) := by decide +kernel
theorem dX10_beginThought_4 : decode cX10_beginThought 4 = .ok (.aload_n 0, 1) := by decide +kernel
theorem dX10_beginThought_5 : decode cX10_beginThought 5 = .ok (.getfield 10, 3) := by decide +kernel
theorem dX10_beginThought_8 : decode cX10_beginThought 8 = .ok (.invokevirtual 339, 3) := by decide +kernel
theorem dX10_beginThought_11 : decode cX10_beginThought 11 = .ok (.aload_n 0, 1) := by decide +kernel
theorem dX10_beginThought_12 : decode cX10_beginThought 12 = .ok (.getfield 59, 3) := by decide +kernel
theorem dX10_beginThought_15 : decode cX10_beginThought 15 = .ok (.iconst 1, 1) := by decide +kernel
theorem dX10_beginThought_16 : decode cX10_beginThought 16 = .ok (.putfield 397, 3) := by decide +kernel
theorem dX10_beginThought_19 : decode cX10_beginThought 19 = .ok (.return_, 1) := by decide +kernel
theorem dX10_endThought_0 : decode cX10_endThought 0 = .ok (.aload_n 0, 1) := by decide +kernel
theorem dX10_endThought_1 : decode cX10_endThought 1 = .ok (.getfield 59, 3) := by decide +kernel
theorem dX10_endThought_4 : decode cX10_endThought 4 = .ok (.iconst 0, 1) := by decide +kernel
theorem dX10_endThought_5 : decode cX10_endThought 5 = .ok (.putfield 397, 3) := by decide +kernel
theorem dX10_endThought_8 : decode cX10_endThought 8 = .ok (.aload_n 0, 1) := by decide +kernel
theorem dX10_endThought_9 : decode cX10_endThought 9 = .ok (.getfield 10, 3) := by decide +kernel
theorem dX10_endThought_12 : decode cX10_endThought 12 = .ok (.aload_n 0, 1) := by decide +kernel
theorem dX10_endThought_13 : decode cX10_endThought 13 = .ok (.getfield 16, 3) := by decide +kernel
theorem dX10_endThought_16 : decode cX10_endThought 16 = .ok (.invokevirtual 339, 3) := by decide +kernel
theorem dX10_endThought_19 : decode cX10_endThought 19 = .ok (.return_, 1) := by decide +kernel
theorem dX11_within_0 : decode cX11_within 0 = .ok (.iload_n 0, 1) := by decide +kernel
theorem dX11_within_1 : decode cX11_within 1 = .ok (.iload_n 1, 1) := by decide +kernel
theorem dX11_within_2 : decode cX11_within 2 = .ok (.if_icmp .lt 12, 3) := by decide +kernel
theorem dX11_within_5 : decode cX11_within 5 = .ok (.iload_n 0, 1) := by decide +kernel
theorem dX11_within_6 : decode cX11_within 6 = .ok (.iload_n 2, 1) := by decide +kernel
theorem dX11_within_7 : decode cX11_within 7 = .ok (.if_icmp .gt 7, 3) := by decide +kernel
theorem dX11_within_10 : decode cX11_within 10 = .ok (.iconst 1, 1) := by decide +kernel
theorem dX11_within_11 : decode cX11_within 11 = .ok (.goto 4, 3) := by decide +kernel
theorem dX11_within_14 : decode cX11_within 14 = .ok (.iconst 0, 1) := by decide +kernel
theorem dX11_within_15 : decode cX11_within 15 = .ok (.ireturn, 1) := by decide +kernel
theorem dX11_init_0 : decode cX11_init 0 = .ok (.aload_n 0, 1) := by decide +kernel
theorem dX11_init_1 : decode cX11_init 1 = .ok (.invokespecial 3, 3) := by decide +kernel
theorem dX11_init_4 : decode cX11_init 4 = .ok (.aload_n 0, 1) := by decide +kernel
theorem dX11_init_5 : decode cX11_init 5 = .ok (.sipush 2425, 3) := by decide +kernel
theorem dX11_init_8 : decode cX11_init 8 = .ok (.newarray .int, 2) := by decide +kernel
theorem dX11_init_10 : decode cX11_init 10 = .ok (.putfield 9, 3) := by decide +kernel
theorem dX11_init_13 : decode cX11_init 13 = .ok (.aload_n 0, 1) := by decide +kernel
theorem dX11_init_14 : decode cX11_init 14 = .ok (.sipush 2425, 3) := by decide +kernel
theorem dX11_init_17 : decode cX11_init 17 = .ok (.newarray .int, 2) := by decide +kernel
theorem dX11_init_19 : decode cX11_init 19 = .ok (.putfield 13, 3) := by decide +kernel
theorem dX11_init_22 : decode cX11_init 22 = .ok (.aload_n 0, 1) := by decide +kernel
theorem dX11_init_23 : decode cX11_init 23 = .ok (.sipush 2425, 3) := by decide +kernel
theorem dX11_init_26 : decode cX11_init 26 = .ok (.newarray .int, 2) := by decide +kernel
theorem dX11_init_28 : decode cX11_init 28 = .ok (.putfield 16, 3) := by decide +kernel
theorem dX11_init_31 : decode cX11_init 31 = .ok (.aload_n 0, 1) := by decide +kernel
theorem dX11_init_32 : decode cX11_init 32 = .ok (.sipush 5640, 3) := by decide +kernel
theorem dX11_init_35 : decode cX11_init 35 = .ok (.newarray .int, 2) := by decide +kernel
theorem dX11_init_37 : decode cX11_init 37 = .ok (.putfield 19, 3) := by decide +kernel
theorem dX11_init_40 : decode cX11_init 40 = .ok (.aload_n 0, 1) := by decide +kernel
theorem dX11_init_41 : decode cX11_init 41 = .ok (.iconst (-1), 1) := by decide +kernel
theorem dX11_init_42 : decode cX11_init 42 = .ok (.putfield 22, 3) := by decide +kernel
theorem dX11_init_45 : decode cX11_init 45 = .ok (.aload_n 0, 1) := by decide +kernel
theorem dX11_init_46 : decode cX11_init 46 = .ok (.sipush 400, 3) := by decide +kernel
theorem dX11_init_49 : decode cX11_init 49 = .ok (.newarray .int, 2) := by decide +kernel
theorem dX11_init_51 : decode cX11_init 51 = .ok (.putfield 26, 3) := by decide +kernel
theorem dX11_init_54 : decode cX11_init 54 = .ok (.aload_n 0, 1) := by decide +kernel
theorem dX11_init_55 : decode cX11_init 55 = .ok (.sipush 2425, 3) := by decide +kernel
theorem dX11_init_58 : decode cX11_init 58 = .ok (.newarray .int, 2) := by decide +kernel
theorem dX11_init_60 : decode cX11_init 60 = .ok (.putfield 29, 3) := by decide +kernel
theorem dX11_init_63 : decode cX11_init 63 = .ok (.aload_n 0, 1) := by decide +kernel
theorem dX11_init_64 : decode cX11_init 64 = .ok (.sipush 420, 3) := by decide +kernel
theorem dX11_init_67 : decode cX11_init 67 = .ok (.newarray .int, 2) := by decide +kernel
theorem dX11_init_69 : decode cX11_init 69 = .ok (.putfield 32, 3) := by decide +kernel
theorem dX11_init_72 : decode cX11_init 72 = .ok (.aload_n 0, 1) := by decide +kernel
theorem dX11_init_73 : decode cX11_init 73 = .ok (.bipush 10, 2) := by decide +kernel
theorem dX11_init_75 : decode cX11_init 75 = .ok (.newarray .int, 2) := by decide +kernel
theorem dX11_init_77 : decode cX11_init 77 = .ok (.putfield 35, 3) := by decide +kernel
theorem dX11_init_80 : decode cX11_init 80 = .ok (.aload_n 0, 1) := by decide +kernel
theorem dX11_init_81 : decode cX11_init 81 = .ok (.sipush 420, 3) := by decide +kernel
theorem dX11_init_84 : decode cX11_init 84 = .ok (.newarray .int, 2) := by decide +kernel
theorem dX11_init_86 : decode cX11_init 86 = .ok (.putfield 38, 3) := by decide +kernel
theorem dX11_init_89 : decode cX11_init 89 = .ok (.aload_n 0, 1) := by decide +kernel
theorem dX11_init_90 : decode cX11_init 90 = .ok (.sipush 4032, 3) := by decide +kernel
theorem dX11_init_93 : decode cX11_init 93 = .ok (.newarray .int, 2) := by decide +kernel
theorem dX11_init_95 : decode cX11_init 95 = .ok (.putfield 41, 3) := by decide +kernel
theorem dX11_init_98 : decode cX11_init 98 = .ok (.aload_n 0, 1) := by decide +kernel
theorem dX11_init_99 : decode cX11_init 99 = .ok (.sipush 576, 3) := by decide +kernel
theorem dX11_init_102 : decode cX11_init 102 = .ok (.newarray .int, 2) := by decide +kernel
theorem dX11_init_104 : decode cX11_init 104 = .ok (.putfield 44, 3) := by decide +kernel
theorem dX11_init_107 : decode cX11_init 107 = .ok (.aload_n 0, 1) := by decide +kernel
theorem dX11_init_108 : decode cX11_init 108 = .ok (.sipush 12096, 3) := by decide +kernel
theorem dX11_init_111 : decode cX11_init 111 = .ok (.newarray .int, 2) := by decide +kernel
theorem dX11_init_113 : decode cX11_init 113 = .ok (.putfield 47, 3) := by decide +kernel
theorem dX11_init_116 : decode cX11_init 116 = .ok (.aload_n 0, 1) := by decide +kernel
theorem dX11_init_117 : decode cX11_init 117 = .ok (.sipush 12096, 3) := by decide +kernel
theorem dX11_init_120 : decode cX11_init 120 = .ok (.newarray .int, 2) := by decide +kernel
theorem dX11_init_122 : decode cX11_init 122 = .ok (.putfield 50, 3) := by decide +kernel
theorem dX11_init_125 : decode cX11_init 125 = .ok (.aload_n 0, 1) := by decide +kernel
theorem dX11_init_126 : decode cX11_init 126 = .ok (.bipush 25, 2) := by decide +kernel
theorem dX11_init_128 : decode cX11_init 128 = .ok (.newarray .int, 2) := by decide +kernel
theorem dX11_init_130 : decode cX11_init 130 = .ok (.putfield 53, 3) := by decide +kernel
theorem dX11_init_133 : decode cX11_init 133 = .ok (.aload_n 0, 1) := by decide +kernel
theorem dX11_init_134 : decode cX11_init 134 = .ok (.bipush 25, 2) := by decide +kernel
theorem dX11_init_136 : decode cX11_init 136 = .ok (.newarray .int, 2) := by decide +kernel
theorem dX11_init_138 : decode cX11_init 138 = .ok (.putfield 56, 3) := by decide +kernel
theorem dX11_init_141 : decode cX11_init 141 = .ok (.aload_n 0, 1) := by decide +kernel
theorem dX11_init_142 : decode cX11_init 142 = .ok (.bipush 31, 2) := by decide +kernel
theorem dX11_init_144 : decode cX11_init 144 = .ok (.newarray .int, 2) := by decide +kernel
theorem dX11_init_146 : decode cX11_init 146 = .ok (.putfield 59, 3) := by decide +kernel
theorem dX11_init_149 : decode cX11_init 149 = .ok (.aload_n 0, 1) := by decide +kernel
theorem dX11_init_150 : decode cX11_init 150 = .ok (.bipush 31, 2) := by decide +kernel
theorem dX11_init_152 : decode cX11_init 152 = .ok (.newarray .int, 2) := by decide +kernel
theorem dX11_init_154 : decode cX11_init 154 = .ok (.putfield 62, 3) := by decide +kernel
theorem dX11_init_157 : decode cX11_init 157 = .ok (.aload_n 0, 1) := by decide +kernel
theorem dX11_init_158 : decode cX11_init 158 = .ok (.sipush 14641, 3) := by decide +kernel
theorem dX11_init_161 : decode cX11_init 161 = .ok (.newarray .int, 2) := by decide +kernel
theorem dX11_init_163 : decode cX11_init 163 = .ok (.putfield 65, 3) := by decide +kernel
theorem dX11_init_166 : decode cX11_init 166 = .ok (.aload_n 0, 1) := by decide +kernel
theorem dX11_init_167 : decode cX11_init 167 = .ok (.sipush 16384, 3) := by decide +kernel
theorem dX11_init_170 : decode cX11_init 170 = .ok (.newarray .int, 2) := by decide +kernel
theorem dX11_init_172 : decode cX11_init 172 = .ok (.putfield 68, 3) := by decide +kernel
theorem dX11_init_175 : decode cX11_init 175 = .ok (.aload_n 0, 1) := by decide +kernel
theorem dX11_init_176 : decode cX11_init 176 = .ok (.iconst 4, 1) := by decide +kernel
theorem dX11_init_177 : decode cX11_init 177 = .ok (.newarray .int, 2) := by decide +kernel
theorem dX11_init_179 : decode cX11_init 179 = .ok (.putfield 71, 3) := by decide +kernel
theorem dX11_init_182 : decode cX11_init 182 = .ok (.aload_n 0, 1) := by decide +kernel
theorem dX11_init_183 : decode cX11_init 183 = .ok (.iconst 4, 1) := by decide +kernel
theorem dX11_init_184 : decode cX11_init 184 = .ok (.newarray .int, 2) := by decide +kernel
theorem dX11_init_186 : decode cX11_init 186 = .ok (.putfield 74, 3) := by decide +kernel
theorem dX11_init_189 : decode cX11_init 189 = .ok (.aload_n 0, 1) := by decide +kernel
theorem dX11_init_190 : decode cX11_init 190 = .ok (.sipush 144, 3) := by decide +kernel
theorem dX11_init_193 : decode cX11_init 193 = .ok (.newarray .int, 2) := by decide +kernel
theorem dX11_init_195 : decode cX11_init 195 = .ok (.putfield 77, 3) := by decide +kernel
theorem dX11_init_198 : decode cX11_init 198 = .ok (.aload_n 0, 1) := by decide +kernel
theorem dX11_init_199 : decode cX11_init 199 = .ok (.sipush 144, 3) := by decide +kernel
theorem dX11_init_202 : decode cX11_init 202 = .ok (.newarray .int, 2) := by decide +kernel
theorem dX11_init_204 : decode cX11_init 204 = .ok (.putfield 80, 3) := by decide +kernel
theorem dX11_init_207 : decode cX11_init 207 = .ok (.aload_n 0, 1) := by decide +kernel
theorem dX11_init_208 : decode cX11_init 208 = .ok (.sipush 3721, 3) := by decide +kernel
theorem dX11_init_211 : decode cX11_init 211 = .ok (.newarray .int, 2) := by decide +kernel
theorem dX11_init_213 : decode cX11_init 213 = .ok (.putfield 83, 3) := by decide +kernel
theorem dX11_init_216 : decode cX11_init 216 = .ok (.return_, 1) := by decide +kernel
theorem dX11_copies_0 : decode cX11_copies 0 = .ok (.iconst 0, 1) := by decide +kernel
theorem dX11_copies_1 : decode cX11_copies 1 = .ok (.istore_n 3, 1) := by decide +kernel
theorem dX11_copies_2 : decode cX11_copies 2 = .ok (.iload_n 3, 1) := by decide +kernel
theorem dX11_copies_3 : decode cX11_copies 3 = .ok (.iload_n 2, 1) := by decide +kernel
theorem dX11_copies_4 : decode cX11_copies 4 = .ok (.if_icmp .ge 15, 3) := by decide +kernel
theorem dX11_copies_7 : decode cX11_copies 7 = .ok (.aload_n 1, 1) := by decide +kernel
theorem dX11_copies_8 : decode cX11_copies 8 = .ok (.iload_n 3, 1) := by decide +kernel
theorem dX11_copies_9 : decode cX11_copies 9 = .ok (.aload_n 0, 1) := by decide +kernel
theorem dX11_copies_10 : decode cX11_copies 10 = .ok (.iload_n 3, 1) := by decide +kernel
theorem dX11_copies_11 : decode cX11_copies 11 = .ok (.iaload, 1) := by decide +kernel
theorem dX11_copies_12 : decode cX11_copies 12 = .ok (.iastore, 1) := by decide +kernel
theorem dX11_copies_13 : decode cX11_copies 13 = .ok (.iinc 3 1, 3) := by decide +kernel
theorem dX11_copies_16 : decode cX11_copies 16 = .ok (.goto (-14), 3) := by decide +kernel
theorem dX11_copies_19 : decode cX11_copies 19 = .ok (.return_, 1) := by decide +kernel
theorem dX11_take_0 : decode cX11_take 0 = .ok (.aload_n 0, 1) := by decide +kernel
theorem dX11_take_1 : decode cX11_take 1 = .ok (.getfield 9, 3) := by decide +kernel
theorem dX11_take_4 : decode cX11_take 4 = .ok (.aload_n 0, 1) := by decide +kernel
theorem dX11_take_5 : decode cX11_take 5 = .ok (.getfield 13, 3) := by decide +kernel
theorem dX11_take_8 : decode cX11_take 8 = .ok (.sipush 2425, 3) := by decide +kernel
theorem dX11_take_11 : decode cX11_take 11 = .ok (.invokestatic 86, 3) := by decide +kernel
theorem dX11_take_14 : decode cX11_take 14 = .ok (.aload_n 0, 1) := by decide +kernel
theorem dX11_take_15 : decode cX11_take 15 = .ok (.iconst 1, 1) := by decide +kernel
theorem dX11_take_16 : decode cX11_take 16 = .ok (.putfield 90, 3) := by decide +kernel
theorem dX11_take_19 : decode cX11_take 19 = .ok (.return_, 1) := by decide +kernel
theorem dX11_keepsPast_0 : decode cX11_keepsPast 0 = .ok (.aload_n 0, 1) := by decide +kernel
theorem dX11_keepsPast_1 : decode cX11_keepsPast 1 = .ok (.getfield 94, 3) := by decide +kernel
theorem dX11_keepsPast_4 : decode cX11_keepsPast 4 = .ok (.bipush 6, 2) := by decide +kernel
theorem dX11_keepsPast_6 : decode cX11_keepsPast 6 = .ok (.if_icmp .ne 34, 3) := by decide +kernel
theorem dX11_keepsPast_9 : decode cX11_keepsPast 9 = .ok (.iconst 0, 1) := by decide +kernel
theorem dX11_keepsPast_10 : decode cX11_keepsPast 10 = .ok (.istore_n 1, 1) := by decide +kernel
theorem dX11_keepsPast_11 : decode cX11_keepsPast 11 = .ok (.iload_n 1, 1) := by decide +kernel
theorem dX11_keepsPast_12 : decode cX11_keepsPast 12 = .ok (.sipush 4700, 3) := by decide +kernel
theorem dX11_keepsPast_15 : decode cX11_keepsPast 15 = .ok (.if_icmp .ge 25, 3) := by decide +kernel
theorem dX11_keepsPast_18 : decode cX11_keepsPast 18 = .ok (.aload_n 0, 1) := by decide +kernel
theorem dX11_keepsPast_19 : decode cX11_keepsPast 19 = .ok (.getfield 19, 3) := by decide +kernel
theorem dX11_keepsPast_22 : decode cX11_keepsPast 22 = .ok (.iload_n 1, 1) := by decide +kernel
theorem dX11_keepsPast_23 : decode cX11_keepsPast 23 = .ok (.aload_n 0, 1) := by decide +kernel
theorem dX11_keepsPast_24 : decode cX11_keepsPast 24 = .ok (.getfield 19, 3) := by decide +kernel
theorem dX11_keepsPast_27 : decode cX11_keepsPast 27 = .ok (.iload_n 1, 1) := by decide +kernel
theorem dX11_keepsPast_28 : decode cX11_keepsPast 28 = .ok (.sipush 940, 3) := by decide +kernel
theorem dX11_keepsPast_31 : decode cX11_keepsPast 31 = .ok (.iadd, 1) := by decide +kernel
theorem dX11_keepsPast_32 : decode cX11_keepsPast 32 = .ok (.iaload, 1) := by decide +kernel
theorem dX11_keepsPast_33 : decode cX11_keepsPast 33 = .ok (.iastore, 1) := by decide +kernel
theorem dX11_keepsPast_34 : decode cX11_keepsPast 34 = .ok (.iinc 1 1, 3) := by decide +kernel
theorem dX11_keepsPast_37 : decode cX11_keepsPast 37 = .ok (.goto (-26), 3) := by decide +kernel
theorem dX11_keepsPast_40 : decode cX11_keepsPast 40 = .ok (.aload_n 0, 1) := by decide +kernel
theorem dX11_keepsPast_41 : decode cX11_keepsPast 41 = .ok (.getfield 94, 3) := by decide +kernel
theorem dX11_keepsPast_44 : decode cX11_keepsPast 44 = .ok (.bipush 6, 2) := by decide +kernel
theorem dX11_keepsPast_46 : decode cX11_keepsPast 46 = .ok (.if_icmp .ne 8, 3) := by decide +kernel
theorem dX11_keepsPast_49 : decode cX11_keepsPast 49 = .ok (.aload_n 0, 1) := by decide +kernel
theorem dX11_keepsPast_50 : decode cX11_keepsPast 50 = .ok (.iconst 5, 1) := by decide +kernel
theorem dX11_keepsPast_51 : decode cX11_keepsPast 51 = .ok (.putfield 94, 3) := by decide +kernel
theorem dX11_keepsPast_54 : decode cX11_keepsPast 54 = .ok (.iconst 0, 1) := by decide +kernel
theorem dX11_keepsPast_55 : decode cX11_keepsPast 55 = .ok (.istore_n 1, 1) := by decide +kernel
theorem dX11_keepsPast_56 : decode cX11_keepsPast 56 = .ok (.iload_n 1, 1) := by decide +kernel
theorem dX11_keepsPast_57 : decode cX11_keepsPast 57 = .ok (.sipush 940, 3) := by decide +kernel
theorem dX11_keepsPast_60 : decode cX11_keepsPast 60 = .ok (.if_icmp .ge 30, 3) := by decide +kernel
theorem dX11_keepsPast_63 : decode cX11_keepsPast 63 = .ok (.aload_n 0, 1) := by decide +kernel
theorem dX11_keepsPast_64 : decode cX11_keepsPast 64 = .ok (.getfield 19, 3) := by decide +kernel
theorem dX11_keepsPast_67 : decode cX11_keepsPast 67 = .ok (.sipush 940, 3) := by decide +kernel
theorem dX11_keepsPast_70 : decode cX11_keepsPast 70 = .ok (.aload_n 0, 1) := by decide +kernel
theorem dX11_keepsPast_71 : decode cX11_keepsPast 71 = .ok (.getfield 94, 3) := by decide +kernel
theorem dX11_keepsPast_74 : decode cX11_keepsPast 74 = .ok (.imul, 1) := by decide +kernel
theorem dX11_keepsPast_75 : decode cX11_keepsPast 75 = .ok (.iload_n 1, 1) := by decide +kernel
theorem dX11_keepsPast_76 : decode cX11_keepsPast 76 = .ok (.iadd, 1) := by decide +kernel
theorem dX11_keepsPast_77 : decode cX11_keepsPast 77 = .ok (.aload_n 0, 1) := by decide +kernel
theorem dX11_keepsPast_78 : decode cX11_keepsPast 78 = .ok (.getfield 9, 3) := by decide +kernel
theorem dX11_keepsPast_81 : decode cX11_keepsPast 81 = .ok (.iload_n 1, 1) := by decide +kernel
theorem dX11_keepsPast_82 : decode cX11_keepsPast 82 = .ok (.iaload, 1) := by decide +kernel
theorem dX11_keepsPast_83 : decode cX11_keepsPast 83 = .ok (.iastore, 1) := by decide +kernel
theorem dX11_keepsPast_84 : decode cX11_keepsPast 84 = .ok (.iinc 1 1, 3) := by decide +kernel
theorem dX11_keepsPast_87 : decode cX11_keepsPast 87 = .ok (.goto (-31), 3) := by decide +kernel
theorem dX11_keepsPast_90 : decode cX11_keepsPast 90 = .ok (.aload_n 0, 1) := by decide +kernel
theorem dX11_keepsPast_91 : decode cX11_keepsPast 91 = .ok (.dup, 1) := by decide +kernel
theorem dX11_keepsPast_92 : decode cX11_keepsPast 92 = .ok (.getfield 94, 3) := by decide +kernel
theorem dX11_keepsPast_95 : decode cX11_keepsPast 95 = .ok (.iconst 1, 1) := by decide +kernel
theorem dX11_keepsPast_96 : decode cX11_keepsPast 96 = .ok (.iadd, 1) := by decide +kernel
theorem dX11_keepsPast_97 : decode cX11_keepsPast 97 = .ok (.putfield 94, 3) := by decide +kernel
theorem dX11_keepsPast_100 : decode cX11_keepsPast 100 = .ok (.return_, 1) := by decide +kernel
theorem dX11_begins_0 : decode cX11_begins 0 = .ok (.aload_n 0, 1) := by decide +kernel
theorem dX11_begins_1 : decode cX11_begins 1 = .ok (.getfield 9, 3) := by decide +kernel
theorem dX11_begins_4 : decode cX11_begins 4 = .ok (.aload_n 0, 1) := by decide +kernel
theorem dX11_begins_5 : decode cX11_begins 5 = .ok (.getfield 13, 3) := by decide +kernel
theorem dX11_begins_8 : decode cX11_begins 8 = .ok (.sipush 2425, 3) := by decide +kernel
theorem dX11_begins_11 : decode cX11_begins 11 = .ok (.invokestatic 86, 3) := by decide +kernel
theorem dX11_begins_14 : decode cX11_begins 14 = .ok (.aload_n 0, 1) := by decide +kernel
theorem dX11_begins_15 : decode cX11_begins 15 = .ok (.iconst 0, 1) := by decide +kernel
theorem dX11_begins_16 : decode cX11_begins 16 = .ok (.putfield 90, 3) := by decide +kernel
theorem dX11_begins_19 : decode cX11_begins 19 = .ok (.return_, 1) := by decide +kernel
theorem dX11_ends_0 : decode cX11_ends 0 = .ok (.aload_n 0, 1) := by decide +kernel
theorem dX11_ends_1 : decode cX11_ends 1 = .ok (.invokevirtual 97, 3) := by decide +kernel
theorem dX11_ends_4 : decode cX11_ends 4 = .ok (.aload_n 0, 1) := by decide +kernel
theorem dX11_ends_5 : decode cX11_ends 5 = .ok (.getfield 13, 3) := by decide +kernel
theorem dX11_ends_8 : decode cX11_ends 8 = .ok (.aload_n 0, 1) := by decide +kernel
theorem dX11_ends_9 : decode cX11_ends 9 = .ok (.getfield 9, 3) := by decide +kernel
theorem dX11_ends_12 : decode cX11_ends 12 = .ok (.sipush 2425, 3) := by decide +kernel
theorem dX11_ends_15 : decode cX11_ends 15 = .ok (.invokestatic 86, 3) := by decide +kernel
theorem dX11_ends_18 : decode cX11_ends 18 = .ok (.return_, 1) := by decide +kernel
theorem dX11_place_0 : decode cX11_place 0 = .ok (.bipush 12, 2) := by decide +kernel
theorem dX11_place_2 : decode cX11_place 2 = .ok (.iload_n 1, 1) := by decide +kernel
theorem dX11_place_3 : decode cX11_place 3 = .ok (.imul, 1) := by decide +kernel
theorem dX11_place_4 : decode cX11_place 4 = .ok (.iload_n 0, 1) := by decide +kernel
theorem dX11_place_5 : decode cX11_place 5 = .ok (.iadd, 1) := by decide +kernel
theorem dX11_place_6 : decode cX11_place 6 = .ok (.ireturn, 1) := by decide +kernel
theorem dX11_isIn_0 : decode cX11_isIn 0 = .ok (.iload_n 0, 1) := by decide +kernel
theorem dX11_isIn_1 : decode cX11_isIn 1 = .ok (.iconst 0, 1) := by decide +kernel
theorem dX11_isIn_2 : decode cX11_isIn 2 = .ok (.bipush 11, 2) := by decide +kernel
theorem dX11_isIn_4 : decode cX11_isIn 4 = .ok (.invokestatic 100, 3) := by decide +kernel
theorem dX11_isIn_7 : decode cX11_isIn 7 = .ok (.ifCond .eq 17, 3) := by decide +kernel
theorem dX11_isIn_10 : decode cX11_isIn 10 = .ok (.iload_n 1, 1) := by decide +kernel
theorem dX11_isIn_11 : decode cX11_isIn 11 = .ok (.iconst 0, 1) := by decide +kernel
theorem dX11_isIn_12 : decode cX11_isIn 12 = .ok (.bipush 11, 2) := by decide +kernel
theorem dX11_isIn_14 : decode cX11_isIn 14 = .ok (.invokestatic 100, 3) := by decide +kernel
theorem dX11_isIn_17 : decode cX11_isIn 17 = .ok (.ifCond .eq 7, 3) := by decide +kernel
theorem dX11_isIn_20 : decode cX11_isIn 20 = .ok (.iconst 1, 1) := by decide +kernel
theorem dX11_isIn_21 : decode cX11_isIn 21 = .ok (.goto 4, 3) := by decide +kernel
theorem dX11_isIn_24 : decode cX11_isIn 24 = .ok (.iconst 0, 1) := by decide +kernel
theorem dX11_isIn_25 : decode cX11_isIn 25 = .ok (.ireturn, 1) := by decide +kernel
theorem dX11_goesX_0 : decode cX11_goesX 0 = .ok (.iload_n 0, 1) := by decide +kernel
theorem dX11_goesX_1 : decode cX11_goesX 1 = .ok (.iconst 1, 1) := by decide +kernel
theorem dX11_goesX_2 : decode cX11_goesX 2 = .ok (.if_icmp .ne 7, 3) := by decide +kernel
theorem dX11_goesX_5 : decode cX11_goesX 5 = .ok (.iconst 1, 1) := by decide +kernel
theorem dX11_goesX_6 : decode cX11_goesX 6 = .ok (.goto 13, 3) := by decide +kernel
theorem dX11_goesX_9 : decode cX11_goesX 9 = .ok (.iload_n 0, 1) := by decide +kernel
theorem dX11_goesX_10 : decode cX11_goesX 10 = .ok (.iconst 3, 1) := by decide +kernel
theorem dX11_goesX_11 : decode cX11_goesX 11 = .ok (.if_icmp .ne 7, 3) := by decide +kernel
theorem dX11_goesX_14 : decode cX11_goesX 14 = .ok (.iconst (-1), 1) := by decide +kernel
theorem dX11_goesX_15 : decode cX11_goesX 15 = .ok (.goto 4, 3) := by decide +kernel
theorem dX11_goesX_18 : decode cX11_goesX 18 = .ok (.iconst 0, 1) := by decide +kernel
theorem dX11_goesX_19 : decode cX11_goesX 19 = .ok (.ireturn, 1) := by decide +kernel
theorem dX11_goesY_0 : decode cX11_goesY 0 = .ok (.iload_n 0, 1) := by decide +kernel
theorem dX11_goesY_1 : decode cX11_goesY 1 = .ok (.ifCond .ne 7, 3) := by decide +kernel
theorem dX11_goesY_4 : decode cX11_goesY 4 = .ok (.iconst 1, 1) := by decide +kernel
theorem dX11_goesY_5 : decode cX11_goesY 5 = .ok (.goto 13, 3) := by decide +kernel
theorem dX11_goesY_8 : decode cX11_goesY 8 = .ok (.iload_n 0, 1) := by decide +kernel
theorem dX11_goesY_9 : decode cX11_goesY 9 = .ok (.iconst 2, 1) := by decide +kernel
theorem dX11_goesY_10 : decode cX11_goesY 10 = .ok (.if_icmp .ne 7, 3) := by decide +kernel
theorem dX11_goesY_13 : decode cX11_goesY 13 = .ok (.iconst (-1), 1) := by decide +kernel
theorem dX11_goesY_14 : decode cX11_goesY 14 = .ok (.goto 4, 3) := by decide +kernel
theorem dX11_goesY_17 : decode cX11_goesY 17 = .ok (.iconst 0, 1) := by decide +kernel
theorem dX11_goesY_18 : decode cX11_goesY 18 = .ok (.ireturn, 1) := by decide +kernel
theorem dX11_has_0 : decode cX11_has 0 = .ok (.aload_n 0, 1) := by decide +kernel
theorem dX11_has_1 : decode cX11_has 1 = .ok (.getfield 13, 3) := by decide +kernel
theorem dX11_has_4 : decode cX11_has 4 = .ok (.sipush 144, 3) := by decide +kernel
theorem dX11_has_7 : decode cX11_has 7 = .ok (.bipush 12, 2) := by decide +kernel
theorem dX11_has_9 : decode cX11_has 9 = .ok (.iload_n 1, 1) := by decide +kernel
theorem dX11_has_10 : decode cX11_has 10 = .ok (.imul, 1) := by decide +kernel
theorem dX11_has_11 : decode cX11_has 11 = .ok (.iadd, 1) := by decide +kernel
theorem dX11_has_12 : decode cX11_has 12 = .ok (.iload_n 2, 1) := by decide +kernel
theorem dX11_has_13 : decode cX11_has 13 = .ok (.iadd, 1) := by decide +kernel
theorem dX11_has_14 : decode cX11_has 14 = .ok (.iaload, 1) := by decide +kernel
theorem dX11_has_15 : decode cX11_has 15 = .ok (.ireturn, 1) := by decide +kernel
theorem dX11_sets_0 : decode cX11_sets 0 = .ok (.aload_n 0, 1) := by decide +kernel
theorem dX11_sets_1 : decode cX11_sets 1 = .ok (.getfield 13, 3) := by decide +kernel
theorem dX11_sets_4 : decode cX11_sets 4 = .ok (.sipush 144, 3) := by decide +kernel
theorem dX11_sets_7 : decode cX11_sets 7 = .ok (.bipush 12, 2) := by decide +kernel
theorem dX11_sets_9 : decode cX11_sets 9 = .ok (.iload_n 1, 1) := by decide +kernel
theorem dX11_sets_10 : decode cX11_sets 10 = .ok (.imul, 1) := by decide +kernel
theorem dX11_sets_11 : decode cX11_sets 11 = .ok (.iadd, 1) := by decide +kernel
theorem dX11_sets_12 : decode cX11_sets 12 = .ok (.iload_n 2, 1) := by decide +kernel
theorem dX11_sets_13 : decode cX11_sets 13 = .ok (.iadd, 1) := by decide +kernel
theorem dX11_sets_14 : decode cX11_sets 14 = .ok (.iload_n 3, 1) := by decide +kernel
theorem dX11_sets_15 : decode cX11_sets 15 = .ok (.iastore, 1) := by decide +kernel
theorem dX11_sets_16 : decode cX11_sets 16 = .ok (.return_, 1) := by decide +kernel
theorem dX11_adds_0 : decode cX11_adds 0 = .ok (.aload_n 0, 1) := by decide +kernel
theorem dX11_adds_1 : decode cX11_adds 1 = .ok (.getfield 13, 3) := by decide +kernel
theorem dX11_adds_4 : decode cX11_adds 4 = .ok (.sipush 144, 3) := by decide +kernel
theorem dX11_adds_7 : decode cX11_adds 7 = .ok (.bipush 12, 2) := by decide +kernel
theorem dX11_adds_9 : decode cX11_adds 9 = .ok (.iload_n 1, 1) := by decide +kernel
theorem dX11_adds_10 : decode cX11_adds 10 = .ok (.imul, 1) := by decide +kernel
theorem dX11_adds_11 : decode cX11_adds 11 = .ok (.iadd, 1) := by decide +kernel
theorem dX11_adds_12 : decode cX11_adds 12 = .ok (.iload_n 2, 1) := by decide +kernel
theorem dX11_adds_13 : decode cX11_adds 13 = .ok (.iadd, 1) := by decide +kernel
theorem dX11_adds_14 : decode cX11_adds 14 = .ok (.dup2, 1) := by decide +kernel
theorem dX11_adds_15 : decode cX11_adds 15 = .ok (.iaload, 1) := by decide +kernel
theorem dX11_adds_16 : decode cX11_adds 16 = .ok (.iload_n 3, 1) := by decide +kernel
theorem dX11_adds_17 : decode cX11_adds 17 = .ok (.iadd, 1) := by decide +kernel
theorem dX11_adds_18 : decode cX11_adds 18 = .ok (.iastore, 1) := by decide +kernel
theorem dX11_adds_19 : decode cX11_adds 19 = .ok (.return_, 1) := by decide +kernel
theorem dX11_standsAt_0 : decode cX11_standsAt 0 = .ok (.aload_n 0, 1) := by decide +kernel
theorem dX11_standsAt_1 : decode cX11_standsAt 1 = .ok (.iload_n 1, 1) := by decide +kernel
theorem dX11_standsAt_2 : decode cX11_standsAt 2 = .ok (.iconst 2, 1) := by decide +kernel
theorem dX11_standsAt_3 : decode cX11_standsAt 3 = .ok (.invokevirtual 104, 3) := by decide +kernel
theorem dX11_standsAt_6 : decode cX11_standsAt 6 = .ok (.aload_n 0, 1) := by decide +kernel
theorem dX11_standsAt_7 : decode cX11_standsAt 7 = .ok (.iload_n 1, 1) := by decide +kernel
theorem dX11_standsAt_8 : decode cX11_standsAt 8 = .ok (.iconst 3, 1) := by decide +kernel
theorem dX11_standsAt_9 : decode cX11_standsAt 9 = .ok (.invokevirtual 104, 3) := by decide +kernel
theorem dX11_standsAt_12 : decode cX11_standsAt 12 = .ok (.invokestatic 108, 3) := by decide +kernel
theorem dX11_standsAt_15 : decode cX11_standsAt 15 = .ok (.ireturn, 1) := by decide +kernel
theorem dX11_whoIsAt_0 : decode cX11_whoIsAt 0 = .ok (.iconst 0, 1) := by decide +kernel
theorem dX11_whoIsAt_1 : decode cX11_whoIsAt 1 = .ok (.istore_n 2, 1) := by decide +kernel
theorem dX11_whoIsAt_2 : decode cX11_whoIsAt 2 = .ok (.iload_n 2, 1) := by decide +kernel
theorem dX11_whoIsAt_3 : decode cX11_whoIsAt 3 = .ok (.aload_n 0, 1) := by decide +kernel
theorem dX11_whoIsAt_4 : decode cX11_whoIsAt 4 = .ok (.getfield 13, 3) := by decide +kernel
theorem dX11_whoIsAt_7 : decode cX11_whoIsAt 7 = .ok (.sipush 940, 3) := by decide +kernel
theorem dX11_whoIsAt_10 : decode cX11_whoIsAt 10 = .ok (.iaload, 1) := by decide +kernel
theorem dX11_whoIsAt_11 : decode cX11_whoIsAt 11 = .ok (.if_icmp .ge 30, 3) := by decide +kernel
theorem dX11_whoIsAt_14 : decode cX11_whoIsAt 14 = .ok (.aload_n 0, 1) := by decide +kernel
theorem dX11_whoIsAt_15 : decode cX11_whoIsAt 15 = .ok (.iload_n 2, 1) := by decide +kernel
theorem dX11_whoIsAt_16 : decode cX11_whoIsAt 16 = .ok (.iconst 1, 1) := by decide +kernel
theorem dX11_whoIsAt_17 : decode cX11_whoIsAt 17 = .ok (.invokevirtual 104, 3) := by decide +kernel
theorem dX11_whoIsAt_20 : decode cX11_whoIsAt 20 = .ok (.iconst 1, 1) := by decide +kernel
theorem dX11_whoIsAt_21 : decode cX11_whoIsAt 21 = .ok (.if_icmp .ne 14, 3) := by decide +kernel
theorem dX11_whoIsAt_24 : decode cX11_whoIsAt 24 = .ok (.aload_n 0, 1) := by decide +kernel
theorem dX11_whoIsAt_25 : decode cX11_whoIsAt 25 = .ok (.iload_n 2, 1) := by decide +kernel
theorem dX11_whoIsAt_26 : decode cX11_whoIsAt 26 = .ok (.invokevirtual 111, 3) := by decide +kernel
theorem dX11_whoIsAt_29 : decode cX11_whoIsAt 29 = .ok (.iload_n 1, 1) := by decide +kernel
theorem dX11_whoIsAt_30 : decode cX11_whoIsAt 30 = .ok (.if_icmp .ne 5, 3) := by decide +kernel
theorem dX11_whoIsAt_33 : decode cX11_whoIsAt 33 = .ok (.iload_n 2, 1) := by decide +kernel
theorem dX11_whoIsAt_34 : decode cX11_whoIsAt 34 = .ok (.ireturn, 1) := by decide +kernel
theorem dX11_whoIsAt_35 : decode cX11_whoIsAt 35 = .ok (.iinc 2 1, 3) := by decide +kernel
theorem dX11_whoIsAt_38 : decode cX11_whoIsAt 38 = .ok (.goto (-36), 3) := by decide +kernel
theorem dX11_whoIsAt_41 : decode cX11_whoIsAt 41 = .ok (.iconst (-1), 1) := by decide +kernel
theorem dX11_whoIsAt_42 : decode cX11_whoIsAt 42 = .ok (.ireturn, 1) := by decide +kernel
theorem dX11_isFree_0 : decode cX11_isFree 0 = .ok (.aload_n 0, 1) := by decide +kernel
theorem dX11_isFree_1 : decode cX11_isFree 1 = .ok (.getfield 13, 3) := by decide +kernel
theorem dX11_isFree_4 : decode cX11_isFree 4 = .ok (.iload_n 1, 1) := by decide +kernel
theorem dX11_isFree_5 : decode cX11_isFree 5 = .ok (.iaload, 1) := by decide +kernel
theorem dX11_isFree_6 : decode cX11_isFree 6 = .ok (.iconst 1, 1) := by decide +kernel
theorem dX11_isFree_7 : decode cX11_isFree 7 = .ok (.if_icmp .eq 16, 3) := by decide +kernel
theorem dX11_isFree_10 : decode cX11_isFree 10 = .ok (.aload_n 0, 1) := by decide +kernel
theorem dX11_isFree_11 : decode cX11_isFree 11 = .ok (.iload_n 1, 1) := by decide +kernel
theorem dX11_isFree_12 : decode cX11_isFree 12 = .ok (.invokevirtual 115, 3) := by decide +kernel
theorem dX11_isFree_15 : decode cX11_isFree 15 = .ok (.iconst (-1), 1) := by decide +kernel
theorem dX11_isFree_16 : decode cX11_isFree 16 = .ok (.if_icmp .ne 7, 3) := by decide +kernel
theorem dX11_isFree_19 : decode cX11_isFree 19 = .ok (.iconst 1, 1) := by decide +kernel
theorem dX11_isFree_20 : decode cX11_isFree 20 = .ok (.goto 4, 3) := by decide +kernel
theorem dX11_isFree_23 : decode cX11_isFree 23 = .ok (.iconst 0, 1) := by decide +kernel
theorem dX11_isFree_24 : decode cX11_isFree 24 = .ok (.ireturn, 1) := by decide +kernel
theorem dX11_writes_0 : decode cX11_writes 0 = .ok (.aload_n 0, 1) := by decide +kernel
theorem dX11_writes_1 : decode cX11_writes 1 = .ok (.getfield 13, 3) := by decide +kernel
theorem dX11_writes_4 : decode cX11_writes 4 = .ok (.sipush 939, 3) := by decide +kernel
theorem dX11_writes_7 : decode cX11_writes 7 = .ok (.iaload, 1) := by decide +kernel
theorem dX11_writes_8 : decode cX11_writes 8 = .ok (.sipush 150, 3) := by decide +kernel
theorem dX11_writes_11 : decode cX11_writes 11 = .ok (.if_icmp .ne 4, 3) := by decide +kernel
theorem dX11_writes_14 : decode cX11_writes 14 = .ok (.return_, 1) := by decide +kernel
theorem dX11_writes_15 : decode cX11_writes 15 = .ok (.sipush 336, 3) := by decide +kernel
theorem dX11_writes_18 : decode cX11_writes 18 = .ok (.iconst 4, 1) := by decide +kernel
theorem dX11_writes_19 : decode cX11_writes 19 = .ok (.aload_n 0, 1) := by decide +kernel
theorem dX11_writes_20 : decode cX11_writes 20 = .ok (.getfield 13, 3) := by decide +kernel
theorem dX11_writes_23 : decode cX11_writes 23 = .ok (.sipush 939, 3) := by decide +kernel
theorem dX11_writes_26 : decode cX11_writes 26 = .ok (.iaload, 1) := by decide +kernel
theorem dX11_writes_27 : decode cX11_writes 27 = .ok (.imul, 1) := by decide +kernel
theorem dX11_writes_28 : decode cX11_writes 28 = .ok (.iadd, 1) := by decide +kernel
theorem dX11_writes_29 : decode cX11_writes 29 = .ok (.istore 4, 2) := by decide +kernel
theorem dX11_writes_31 : decode cX11_writes 31 = .ok (.aload_n 0, 1) := by decide +kernel
theorem dX11_writes_32 : decode cX11_writes 32 = .ok (.getfield 13, 3) := by decide +kernel
theorem dX11_writes_35 : decode cX11_writes 35 = .ok (.iload 4, 2) := by decide +kernel
theorem dX11_writes_37 : decode cX11_writes 37 = .ok (.aload_n 0, 1) := by decide +kernel
theorem dX11_writes_38 : decode cX11_writes 38 = .ok (.getfield 13, 3) := by decide +kernel
theorem dX11_writes_41 : decode cX11_writes 41 = .ok (.sipush 936, 3) := by decide +kernel
theorem dX11_writes_44 : decode cX11_writes 44 = .ok (.iaload, 1) := by decide +kernel
theorem dX11_writes_45 : decode cX11_writes 45 = .ok (.iastore, 1) := by decide +kernel
theorem dX11_writes_46 : decode cX11_writes 46 = .ok (.aload_n 0, 1) := by decide +kernel
theorem dX11_writes_47 : decode cX11_writes 47 = .ok (.getfield 13, 3) := by decide +kernel
theorem dX11_writes_50 : decode cX11_writes 50 = .ok (.iload 4, 2) := by decide +kernel
theorem dX11_writes_52 : decode cX11_writes 52 = .ok (.iconst 1, 1) := by decide +kernel
theorem dX11_writes_53 : decode cX11_writes 53 = .ok (.iadd, 1) := by decide +kernel
theorem dX11_writes_54 : decode cX11_writes 54 = .ok (.iload_n 1, 1) := by decide +kernel
theorem dX11_writes_55 : decode cX11_writes 55 = .ok (.iastore, 1) := by decide +kernel
theorem dX11_writes_56 : decode cX11_writes 56 = .ok (.aload_n 0, 1) := by decide +kernel
theorem dX11_writes_57 : decode cX11_writes 57 = .ok (.getfield 13, 3) := by decide +kernel
theorem dX11_writes_60 : decode cX11_writes 60 = .ok (.iload 4, 2) := by decide +kernel
theorem dX11_writes_62 : decode cX11_writes 62 = .ok (.iconst 2, 1) := by decide +kernel
theorem dX11_writes_63 : decode cX11_writes 63 = .ok (.iadd, 1) := by decide +kernel
theorem dX11_writes_64 : decode cX11_writes 64 = .ok (.iload_n 2, 1) := by decide +kernel
theorem dX11_writes_65 : decode cX11_writes 65 = .ok (.iastore, 1) := by decide +kernel
theorem dX11_writes_66 : decode cX11_writes 66 = .ok (.aload_n 0, 1) := by decide +kernel
theorem dX11_writes_67 : decode cX11_writes 67 = .ok (.getfield 13, 3) := by decide +kernel
theorem dX11_writes_70 : decode cX11_writes 70 = .ok (.iload 4, 2) := by decide +kernel
theorem dX11_writes_72 : decode cX11_writes 72 = .ok (.iconst 3, 1) := by decide +kernel
theorem dX11_writes_73 : decode cX11_writes 73 = .ok (.iadd, 1) := by decide +kernel
theorem dX11_writes_74 : decode cX11_writes 74 = .ok (.iload_n 3, 1) := by decide +kernel
theorem dX11_writes_75 : decode cX11_writes 75 = .ok (.iastore, 1) := by decide +kernel
theorem dX11_writes_76 : decode cX11_writes 76 = .ok (.aload_n 0, 1) := by decide +kernel
theorem dX11_writes_77 : decode cX11_writes 77 = .ok (.getfield 13, 3) := by decide +kernel
theorem dX11_writes_80 : decode cX11_writes 80 = .ok (.sipush 939, 3) := by decide +kernel
theorem dX11_writes_83 : decode cX11_writes 83 = .ok (.dup2, 1) := by decide +kernel
theorem dX11_writes_84 : decode cX11_writes 84 = .ok (.iaload, 1) := by decide +kernel
theorem dX11_writes_85 : decode cX11_writes 85 = .ok (.iconst 1, 1) := by decide +kernel
theorem dX11_writes_86 : decode cX11_writes 86 = .ok (.iadd, 1) := by decide +kernel
theorem dX11_writes_87 : decode cX11_writes 87 = .ok (.iastore, 1) := by decide +kernel
theorem dX11_writes_88 : decode cX11_writes 88 = .ok (.return_, 1) := by decide +kernel
theorem dX11_draws_0 : decode cX11_draws 0 = .ok (.aload_n 0, 1) := by decide +kernel
theorem dX11_draws_1 : decode cX11_draws 1 = .ok (.getfield 13, 3) := by decide +kernel
theorem dX11_draws_4 : decode cX11_draws 4 = .ok (.sipush 938, 3) := by decide +kernel
theorem dX11_draws_7 : decode cX11_draws 7 = .ok (.ldc 118, 2) := by decide +kernel
theorem dX11_draws_9 : decode cX11_draws 9 = .ok (.aload_n 0, 1) := by decide +kernel
theorem dX11_draws_10 : decode cX11_draws 10 = .ok (.getfield 13, 3) := by decide +kernel
theorem dX11_draws_13 : decode cX11_draws 13 = .ok (.sipush 938, 3) := by decide +kernel
theorem dX11_draws_16 : decode cX11_draws 16 = .ok (.iaload, 1) := by decide +kernel
theorem dX11_draws_17 : decode cX11_draws 17 = .ok (.imul, 1) := by decide +kernel
theorem dX11_draws_18 : decode cX11_draws 18 = .ok (.ldc 119, 2) := by decide +kernel
theorem dX11_draws_20 : decode cX11_draws 20 = .ok (.iadd, 1) := by decide +kernel
theorem dX11_draws_21 : decode cX11_draws 21 = .ok (.iastore, 1) := by decide +kernel
theorem dX11_draws_22 : decode cX11_draws 22 = .ok (.aload_n 0, 1) := by decide +kernel
theorem dX11_draws_23 : decode cX11_draws 23 = .ok (.getfield 13, 3) := by decide +kernel
theorem dX11_draws_26 : decode cX11_draws 26 = .ok (.sipush 938, 3) := by decide +kernel
theorem dX11_draws_29 : decode cX11_draws 29 = .ok (.iaload, 1) := by decide +kernel
theorem dX11_draws_30 : decode cX11_draws 30 = .ok (.bipush 8, 2) := by decide +kernel
theorem dX11_draws_32 : decode cX11_draws 32 = .ok (.iushr, 1) := by decide +kernel
theorem dX11_draws_33 : decode cX11_draws 33 = .ok (.iload_n 1, 1) := by decide +kernel
theorem dX11_draws_34 : decode cX11_draws 34 = .ok (.irem, 1) := by decide +kernel
theorem dX11_draws_35 : decode cX11_draws 35 = .ok (.ireturn, 1) := by decide +kernel
theorem dX11_falls_0 : decode cX11_falls 0 = .ok (.iload_n 1, 1) := by decide +kernel
theorem dX11_falls_1 : decode cX11_falls 1 = .ok (.ifCond .le 35, 3) := by decide +kernel
theorem dX11_falls_4 : decode cX11_falls 4 = .ok (.aload_n 0, 1) := by decide +kernel
theorem dX11_falls_5 : decode cX11_falls 5 = .ok (.getfield 90, 3) := by decide +kernel
theorem dX11_falls_8 : decode cX11_falls 8 = .ok (.ifCond .eq 13, 3) := by decide +kernel
theorem dX11_falls_11 : decode cX11_falls 11 = .ok (.iload_n 1, 1) := by decide +kernel
theorem dX11_falls_12 : decode cX11_falls 12 = .ok (.sipush 500, 3) := by decide +kernel
theorem dX11_falls_15 : decode cX11_falls 15 = .ok (.if_icmp .lt 21, 3) := by decide +kernel
theorem dX11_falls_18 : decode cX11_falls 18 = .ok (.goto 14, 3) := by decide +kernel
theorem dX11_falls_21 : decode cX11_falls 21 = .ok (.aload_n 0, 1) := by decide +kernel
theorem dX11_falls_22 : decode cX11_falls 22 = .ok (.sipush 1000, 3) := by decide +kernel
theorem dX11_falls_25 : decode cX11_falls 25 = .ok (.invokevirtual 120, 3) := by decide +kernel
theorem dX11_falls_28 : decode cX11_falls 28 = .ok (.iload_n 1, 1) := by decide +kernel
theorem dX11_falls_29 : decode cX11_falls 29 = .ok (.if_icmp .ge 7, 3) := by decide +kernel
theorem dX11_falls_32 : decode cX11_falls 32 = .ok (.iconst 1, 1) := by decide +kernel
theorem dX11_falls_33 : decode cX11_falls 33 = .ok (.goto 4, 3) := by decide +kernel
theorem dX11_falls_36 : decode cX11_falls 36 = .ok (.iconst 0, 1) := by decide +kernel
theorem dX11_falls_37 : decode cX11_falls 37 = .ok (.ireturn, 1) := by decide +kernel
theorem dX11_feed_0 : decode cX11_feed 0 = .ok (.aload_n 0, 1) := by decide +kernel
theorem dX11_feed_1 : decode cX11_feed 1 = .ok (.getfield 123, 3) := by decide +kernel
theorem dX11_feed_4 : decode cX11_feed 4 = .ok (.bipush 20, 2) := by decide +kernel
theorem dX11_feed_6 : decode cX11_feed 6 = .ok (.iadd, 1) := by decide +kernel
theorem dX11_feed_7 : decode cX11_feed 7 = .ok (.sipush 400, 3) := by decide +kernel
theorem dX11_feed_10 : decode cX11_feed 10 = .ok (.if_icmp .le 5, 3) := by decide +kernel
theorem dX11_feed_13 : decode cX11_feed 13 = .ok (.iconst (-1), 1) := by decide +kernel
theorem dX11_feed_14 : decode cX11_feed 14 = .ok (.ireturn, 1) := by decide +kernel
theorem dX11_feed_15 : decode cX11_feed 15 = .ok (.iconst 0, 1) := by decide +kernel
theorem dX11_feed_16 : decode cX11_feed 16 = .ok (.istore 6, 2) := by decide +kernel
theorem dX11_feed_18 : decode cX11_feed 18 = .ok (.iload 6, 2) := by decide +kernel
theorem dX11_feed_20 : decode cX11_feed 20 = .ok (.bipush 20, 2) := by decide +kernel
theorem dX11_feed_22 : decode cX11_feed 22 = .ok (.if_icmp .ge 93, 3) := by decide +kernel
theorem dX11_feed_25 : decode cX11_feed 25 = .ok (.iload 6, 2) := by decide +kernel
theorem dX11_feed_27 : decode cX11_feed 27 = .ok (.iconst 4, 1) := by decide +kernel
theorem dX11_feed_28 : decode cX11_feed 28 = .ok (.if_icmp .ge 7, 3) := by decide +kernel
theorem dX11_feed_31 : decode cX11_feed 31 = .ok (.iload_n 1, 1) := by decide +kernel
theorem dX11_feed_32 : decode cX11_feed 32 = .ok (.goto 39, 3) := by decide +kernel
theorem dX11_feed_35 : decode cX11_feed 35 = .ok (.iload 6, 2) := by decide +kernel
theorem dX11_feed_37 : decode cX11_feed 37 = .ok (.bipush 8, 2) := by decide +kernel
theorem dX11_feed_39 : decode cX11_feed 39 = .ok (.if_icmp .ge 7, 3) := by decide +kernel
theorem dX11_feed_42 : decode cX11_feed 42 = .ok (.iload_n 2, 1) := by decide +kernel
theorem dX11_feed_43 : decode cX11_feed 43 = .ok (.goto 28, 3) := by decide +kernel
theorem dX11_feed_46 : decode cX11_feed 46 = .ok (.iload 6, 2) := by decide +kernel
theorem dX11_feed_48 : decode cX11_feed 48 = .ok (.bipush 12, 2) := by decide +kernel
theorem dX11_feed_50 : decode cX11_feed 50 = .ok (.if_icmp .ge 7, 3) := by decide +kernel
theorem dX11_feed_53 : decode cX11_feed 53 = .ok (.iload_n 3, 1) := by decide +kernel
theorem dX11_feed_54 : decode cX11_feed 54 = .ok (.goto 17, 3) := by decide +kernel
theorem dX11_feed_57 : decode cX11_feed 57 = .ok (.iload 6, 2) := by decide +kernel
theorem dX11_feed_59 : decode cX11_feed 59 = .ok (.bipush 16, 2) := by decide +kernel
theorem dX11_feed_61 : decode cX11_feed 61 = .ok (.if_icmp .ge 8, 3) := by decide +kernel
theorem dX11_feed_64 : decode cX11_feed 64 = .ok (.iload 4, 2) := by decide +kernel
theorem dX11_feed_66 : decode cX11_feed 66 = .ok (.goto 5, 3) := by decide +kernel
theorem dX11_feed_69 : decode cX11_feed 69 = .ok (.iload 5, 2) := by decide +kernel
theorem dX11_feed_71 : decode cX11_feed 71 = .ok (.istore 7, 2) := by decide +kernel
theorem dX11_feed_73 : decode cX11_feed 73 = .ok (.aload_n 0, 1) := by decide +kernel
theorem dX11_feed_74 : decode cX11_feed 74 = .ok (.getfield 26, 3) := by decide +kernel
theorem dX11_feed_77 : decode cX11_feed 77 = .ok (.aload_n 0, 1) := by decide +kernel
theorem dX11_feed_78 : decode cX11_feed 78 = .ok (.getfield 123, 3) := by decide +kernel
theorem dX11_feed_81 : decode cX11_feed 81 = .ok (.iload 7, 2) := by decide +kernel
theorem dX11_feed_83 : decode cX11_feed 83 = .ok (.bipush 24, 2) := by decide +kernel
theorem dX11_feed_85 : decode cX11_feed 85 = .ok (.bipush 8, 2) := by decide +kernel
theorem dX11_feed_87 : decode cX11_feed 87 = .ok (.iload 6, 2) := by decide +kernel
theorem dX11_feed_89 : decode cX11_feed 89 = .ok (.iconst 4, 1) := by decide +kernel
theorem dX11_feed_90 : decode cX11_feed 90 = .ok (.irem, 1) := by decide +kernel
theorem dX11_feed_91 : decode cX11_feed 91 = .ok (.imul, 1) := by decide +kernel
theorem dX11_feed_92 : decode cX11_feed 92 = .ok (.isub, 1) := by decide +kernel
theorem dX11_feed_93 : decode cX11_feed 93 = .ok (.ishr, 1) := by decide +kernel
theorem dX11_feed_94 : decode cX11_feed 94 = .ok (.sipush 255, 3) := by decide +kernel
theorem dX11_feed_97 : decode cX11_feed 97 = .ok (.iand, 1) := by decide +kernel
theorem dX11_feed_98 : decode cX11_feed 98 = .ok (.iastore, 1) := by decide +kernel
theorem dX11_feed_99 : decode cX11_feed 99 = .ok (.aload_n 0, 1) := by decide +kernel
theorem dX11_feed_100 : decode cX11_feed 100 = .ok (.dup, 1) := by decide +kernel
theorem dX11_feed_101 : decode cX11_feed 101 = .ok (.getfield 123, 3) := by decide +kernel
theorem dX11_feed_104 : decode cX11_feed 104 = .ok (.iconst 1, 1) := by decide +kernel
theorem dX11_feed_105 : decode cX11_feed 105 = .ok (.iadd, 1) := by decide +kernel
theorem dX11_feed_106 : decode cX11_feed 106 = .ok (.putfield 123, 3) := by decide +kernel
theorem dX11_feed_109 : decode cX11_feed 109 = .ok (.iinc 6 1, 3) := by decide +kernel
theorem dX11_feed_112 : decode cX11_feed 112 = .ok (.goto (-94), 3) := by decide +kernel
theorem dX11_feed_115 : decode cX11_feed 115 = .ok (.aload_n 0, 1) := by decide +kernel
theorem dX11_feed_116 : decode cX11_feed 116 = .ok (.getfield 123, 3) := by decide +kernel
theorem dX11_feed_119 : decode cX11_feed 119 = .ok (.ireturn, 1) := by decide +kernel
theorem dX11_end_0 : decode cX11_end 0 = .ok (.iload_n 1, 1) := by decide +kernel
theorem dX11_end_1 : decode cX11_end 1 = .ok (.iconst 0, 1) := by decide +kernel
theorem dX11_end_2 : decode cX11_end 2 = .ok (.aload_n 0, 1) := by decide +kernel
theorem dX11_end_3 : decode cX11_end 3 = .ok (.getfield 123, 3) := by decide +kernel
theorem dX11_end_6 : decode cX11_end 6 = .ok (.invokestatic 100, 3) := by decide +kernel
theorem dX11_end_9 : decode cX11_end 9 = .ok (.ifCond .ne 5, 3) := by decide +kernel
theorem dX11_end_12 : decode cX11_end 12 = .ok (.iconst 0, 1) := by decide +kernel
theorem dX11_end_13 : decode cX11_end 13 = .ok (.ireturn, 1) := by decide +kernel
theorem dX11_end_14 : decode cX11_end 14 = .ok (.aload_n 0, 1) := by decide +kernel
theorem dX11_end_15 : decode cX11_end 15 = .ok (.iload_n 1, 1) := by decide +kernel
theorem dX11_end_16 : decode cX11_end 16 = .ok (.putfield 123, 3) := by decide +kernel
theorem dX11_end_19 : decode cX11_end 19 = .ok (.iconst 1, 1) := by decide +kernel
theorem dX11_end_20 : decode cX11_end 20 = .ok (.ireturn, 1) := by decide +kernel
theorem dX11_fine_0 : decode cX11_fine 0 = .ok (.aload_n 0, 1) := by decide +kernel
theorem dX11_fine_1 : decode cX11_fine 1 = .ok (.getfield 126, 3) := by decide +kernel
theorem dX11_fine_4 : decode cX11_fine 4 = .ok (.iconst (-1), 1) := by decide +kernel
theorem dX11_fine_5 : decode cX11_fine 5 = .ok (.if_icmp .ne 7, 3) := by decide +kernel
theorem dX11_fine_8 : decode cX11_fine 8 = .ok (.iconst 1, 1) := by decide +kernel
theorem dX11_fine_9 : decode cX11_fine 9 = .ok (.goto 4, 3) := by decide +kernel
theorem dX11_fine_12 : decode cX11_fine 12 = .ok (.iconst 0, 1) := by decide +kernel
theorem dX11_fine_13 : decode cX11_fine 13 = .ok (.ireturn, 1) := by decide +kernel
theorem dX11_wrong_0 : decode cX11_wrong 0 = .ok (.aload_n 0, 1) := by decide +kernel
theorem dX11_wrong_1 : decode cX11_wrong 1 = .ok (.getfield 126, 3) := by decide +kernel
theorem dX11_wrong_4 : decode cX11_wrong 4 = .ok (.iconst (-1), 1) := by decide +kernel
theorem dX11_wrong_5 : decode cX11_wrong 5 = .ok (.if_icmp .eq 4, 3) := by decide +kernel
theorem dX11_wrong_8 : decode cX11_wrong 8 = .ok (.return_, 1) := by decide +kernel
theorem dX11_wrong_9 : decode cX11_wrong 9 = .ok (.aload_n 0, 1) := by decide +kernel
theorem dX11_wrong_10 : decode cX11_wrong 10 = .ok (.iload_n 2, 1) := by decide +kernel
theorem dX11_wrong_11 : decode cX11_wrong 11 = .ok (.putfield 126, 3) := by decide +kernel
theorem dX11_wrong_14 : decode cX11_wrong 14 = .ok (.aload_n 0, 1) := by decide +kernel
theorem dX11_wrong_15 : decode cX11_wrong 15 = .ok (.iload_n 1, 1) := by decide +kernel
theorem dX11_wrong_16 : decode cX11_wrong 16 = .ok (.putfield 129, 3) := by decide +kernel
theorem dX11_wrong_19 : decode cX11_wrong 19 = .ok (.return_, 1) := by decide +kernel
theorem dX11_here_0 : decode cX11_here 0 = .ok (.aload_n 0, 1) := by decide +kernel
theorem dX11_here_1 : decode cX11_here 1 = .ok (.getfield 132, 3) := by decide +kernel
theorem dX11_here_4 : decode cX11_here 4 = .ok (.aload_n 0, 1) := by decide +kernel
theorem dX11_here_5 : decode cX11_here 5 = .ok (.getfield 135, 3) := by decide +kernel
theorem dX11_here_8 : decode cX11_here 8 = .ok (.if_icmp .ge 44, 3) := by decide +kernel
theorem dX11_here_11 : decode cX11_here 11 = .ok (.aload_n 0, 1) := by decide +kernel
theorem dX11_here_12 : decode cX11_here 12 = .ok (.getfield 26, 3) := by decide +kernel
theorem dX11_here_15 : decode cX11_here 15 = .ok (.aload_n 0, 1) := by decide +kernel
theorem dX11_here_16 : decode cX11_here 16 = .ok (.getfield 132, 3) := by decide +kernel
theorem dX11_here_19 : decode cX11_here 19 = .ok (.iaload, 1) := by decide +kernel
theorem dX11_here_20 : decode cX11_here 20 = .ok (.bipush 32, 2) := by decide +kernel
theorem dX11_here_22 : decode cX11_here 22 = .ok (.if_icmp .eq 17, 3) := by decide +kernel
theorem dX11_here_25 : decode cX11_here 25 = .ok (.aload_n 0, 1) := by decide +kernel
theorem dX11_here_26 : decode cX11_here 26 = .ok (.getfield 26, 3) := by decide +kernel
theorem dX11_here_29 : decode cX11_here 29 = .ok (.aload_n 0, 1) := by decide +kernel
theorem dX11_here_30 : decode cX11_here 30 = .ok (.getfield 132, 3) := by decide +kernel
theorem dX11_here_33 : decode cX11_here 33 = .ok (.iaload, 1) := by decide +kernel
theorem dX11_here_34 : decode cX11_here 34 = .ok (.bipush 10, 2) := by decide +kernel
theorem dX11_here_36 : decode cX11_here 36 = .ok (.if_icmp .ne 16, 3) := by decide +kernel
theorem dX11_here_39 : decode cX11_here 39 = .ok (.aload_n 0, 1) := by decide +kernel
theorem dX11_here_40 : decode cX11_here 40 = .ok (.dup, 1) := by decide +kernel
theorem dX11_here_41 : decode cX11_here 41 = .ok (.getfield 132, 3) := by decide +kernel
theorem dX11_here_44 : decode cX11_here 44 = .ok (.iconst 1, 1) := by decide +kernel
theorem dX11_here_45 : decode cX11_here 45 = .ok (.iadd, 1) := by decide +kernel
theorem dX11_here_46 : decode cX11_here 46 = .ok (.putfield 132, 3) := by decide +kernel
theorem dX11_here_49 : decode cX11_here 49 = .ok (.goto (-49), 3) := by decide +kernel
theorem dX11_here_52 : decode cX11_here 52 = .ok (.aload_n 0, 1) := by decide +kernel
theorem dX11_here_53 : decode cX11_here 53 = .ok (.getfield 132, 3) := by decide +kernel
theorem dX11_here_56 : decode cX11_here 56 = .ok (.aload_n 0, 1) := by decide +kernel
theorem dX11_here_57 : decode cX11_here 57 = .ok (.getfield 135, 3) := by decide +kernel
theorem dX11_here_60 : decode cX11_here 60 = .ok (.if_icmp .ge 15, 3) := by decide +kernel
theorem dX11_here_63 : decode cX11_here 63 = .ok (.aload_n 0, 1) := by decide +kernel
theorem dX11_here_64 : decode cX11_here 64 = .ok (.getfield 26, 3) := by decide +kernel
theorem dX11_here_67 : decode cX11_here 67 = .ok (.aload_n 0, 1) := by decide +kernel
theorem dX11_here_68 : decode cX11_here 68 = .ok (.getfield 132, 3) := by decide +kernel
theorem dX11_here_71 : decode cX11_here 71 = .ok (.iaload, 1) := by decide +kernel
theorem dX11_here_72 : decode cX11_here 72 = .ok (.goto 4, 3) := by decide +kernel
theorem dX11_here_75 : decode cX11_here 75 = .ok (.iconst 0, 1) := by decide +kernel
theorem dX11_here_76 : decode cX11_here 76 = .ok (.ireturn, 1) := by decide +kernel
theorem dX11_isLetter_0 : decode cX11_isLetter 0 = .ok (.iload_n 0, 1) := by decide +kernel
theorem dX11_isLetter_1 : decode cX11_isLetter 1 = .ok (.bipush 97, 2) := by decide +kernel
theorem dX11_isLetter_3 : decode cX11_isLetter 3 = .ok (.if_icmp .lt 9, 3) := by decide +kernel
theorem dX11_isLetter_6 : decode cX11_isLetter 6 = .ok (.iload_n 0, 1) := by decide +kernel
theorem dX11_isLetter_7 : decode cX11_isLetter 7 = .ok (.bipush 122, 2) := by decide +kernel
theorem dX11_isLetter_9 : decode cX11_isLetter 9 = .ok (.if_icmp .le 15, 3) := by decide +kernel
theorem dX11_isLetter_12 : decode cX11_isLetter 12 = .ok (.iload_n 0, 1) := by decide +kernel
theorem dX11_isLetter_13 : decode cX11_isLetter 13 = .ok (.bipush 65, 2) := by decide +kernel
theorem dX11_isLetter_15 : decode cX11_isLetter 15 = .ok (.if_icmp .lt 13, 3) := by decide +kernel
theorem dX11_isLetter_18 : decode cX11_isLetter 18 = .ok (.iload_n 0, 1) := by decide +kernel
theorem dX11_isLetter_19 : decode cX11_isLetter 19 = .ok (.bipush 90, 2) := by decide +kernel
theorem dX11_isLetter_21 : decode cX11_isLetter 21 = .ok (.if_icmp .gt 7, 3) := by decide +kernel
theorem dX11_isLetter_24 : decode cX11_isLetter 24 = .ok (.iconst 1, 1) := by decide +kernel
theorem dX11_isLetter_25 : decode cX11_isLetter 25 = .ok (.goto 4, 3) := by decide +kernel
theorem dX11_isLetter_28 : decode cX11_isLetter 28 = .ok (.iconst 0, 1) := by decide +kernel
theorem dX11_isLetter_29 : decode cX11_isLetter 29 = .ok (.ireturn, 1) := by decide +kernel
theorem dX11_isDigit_0 : decode cX11_isDigit 0 = .ok (.iload_n 0, 1) := by decide +kernel
theorem dX11_isDigit_1 : decode cX11_isDigit 1 = .ok (.bipush 48, 2) := by decide +kernel
theorem dX11_isDigit_3 : decode cX11_isDigit 3 = .ok (.if_icmp .lt 13, 3) := by decide +kernel
theorem dX11_isDigit_6 : decode cX11_isDigit 6 = .ok (.iload_n 0, 1) := by decide +kernel
theorem dX11_isDigit_7 : decode cX11_isDigit 7 = .ok (.bipush 57, 2) := by decide +kernel
theorem dX11_isDigit_9 : decode cX11_isDigit 9 = .ok (.if_icmp .gt 7, 3) := by decide +kernel
theorem dX11_isDigit_12 : decode cX11_isDigit 12 = .ok (.iconst 1, 1) := by decide +kernel
theorem dX11_isDigit_13 : decode cX11_isDigit 13 = .ok (.goto 4, 3) := by decide +kernel
theorem dX11_isDigit_16 : decode cX11_isDigit 16 = .ok (.iconst 0, 1) := by decide +kernel
theorem dX11_isDigit_17 : decode cX11_isDigit 17 = .ok (.ireturn, 1) := by decide +kernel
theorem dX11_packed_0 : decode cX11_packed 0 = .ok (.iload_n 0, 1) := by decide +kernel
theorem dX11_packed_1 : decode cX11_packed 1 = .ok (.iconst 5, 1) := by decide +kernel
theorem dX11_packed_2 : decode cX11_packed 2 = .ok (.ishl, 1) := by decide +kernel
theorem dX11_packed_3 : decode cX11_packed 3 = .ok (.iload_n 1, 1) := by decide +kernel
theorem dX11_packed_4 : decode cX11_packed 4 = .ok (.bipush 96, 2) := by decide +kernel
theorem dX11_packed_6 : decode cX11_packed 6 = .ok (.isub, 1) := by decide +kernel
theorem dX11_packed_7 : decode cX11_packed 7 = .ok (.ior, 1) := by decide +kernel
theorem dX11_packed_8 : decode cX11_packed 8 = .ok (.ireturn, 1) := by decide +kernel
theorem dX11_word_0 : decode cX11_word 0 = .ok (.aload_n 0, 1) := by decide +kernel
theorem dX11_word_1 : decode cX11_word 1 = .ok (.invokevirtual 138, 3) := by decide +kernel
theorem dX11_word_4 : decode cX11_word 4 = .ok (.pop, 1) := by decide +kernel
theorem dX11_word_5 : decode cX11_word 5 = .ok (.iconst 0, 1) := by decide +kernel
theorem dX11_word_6 : decode cX11_word 6 = .ok (.istore_n 1, 1) := by decide +kernel
theorem dX11_word_7 : decode cX11_word 7 = .ok (.iconst 1, 1) := by decide +kernel
theorem dX11_word_8 : decode cX11_word 8 = .ok (.istore_n 2, 1) := by decide +kernel
theorem dX11_word_9 : decode cX11_word 9 = .ok (.iconst 0, 1) := by decide +kernel
theorem dX11_word_10 : decode cX11_word 10 = .ok (.istore_n 3, 1) := by decide +kernel
theorem dX11_word_11 : decode cX11_word 11 = .ok (.aload_n 0, 1) := by decide +kernel
theorem dX11_word_12 : decode cX11_word 12 = .ok (.getfield 132, 3) := by decide +kernel
theorem dX11_word_15 : decode cX11_word 15 = .ok (.istore 4, 2) := by decide +kernel
theorem dX11_word_17 : decode cX11_word 17 = .ok (.iload 4, 2) := by decide +kernel
theorem dX11_word_19 : decode cX11_word 19 = .ok (.aload_n 0, 1) := by decide +kernel
theorem dX11_word_20 : decode cX11_word 20 = .ok (.getfield 135, 3) := by decide +kernel
theorem dX11_word_23 : decode cX11_word 23 = .ok (.if_icmp .ge 73, 3) := by decide +kernel
theorem dX11_word_26 : decode cX11_word 26 = .ok (.aload_n 0, 1) := by decide +kernel
theorem dX11_word_27 : decode cX11_word 27 = .ok (.getfield 26, 3) := by decide +kernel
theorem dX11_word_30 : decode cX11_word 30 = .ok (.iload 4, 2) := by decide +kernel
theorem dX11_word_32 : decode cX11_word 32 = .ok (.iaload, 1) := by decide +kernel
theorem dX11_word_33 : decode cX11_word 33 = .ok (.invokestatic 142, 3) := by decide +kernel
theorem dX11_word_36 : decode cX11_word 36 = .ok (.ifCond .eq 60, 3) := by decide +kernel
theorem dX11_word_39 : decode cX11_word 39 = .ok (.iload_n 2, 1) := by decide +kernel
theorem dX11_word_40 : decode cX11_word 40 = .ok (.ifCond .eq 25, 3) := by decide +kernel
theorem dX11_word_43 : decode cX11_word 43 = .ok (.aload_n 0, 1) := by decide +kernel
theorem dX11_word_44 : decode cX11_word 44 = .ok (.getfield 26, 3) := by decide +kernel
theorem dX11_word_47 : decode cX11_word 47 = .ok (.iload 4, 2) := by decide +kernel
theorem dX11_word_49 : decode cX11_word 49 = .ok (.iaload, 1) := by decide +kernel
theorem dX11_word_50 : decode cX11_word 50 = .ok (.bipush 97, 2) := by decide +kernel
theorem dX11_word_52 : decode cX11_word 52 = .ok (.if_icmp .lt 13, 3) := by decide +kernel
theorem dX11_word_55 : decode cX11_word 55 = .ok (.iload_n 3, 1) := by decide +kernel
theorem dX11_word_56 : decode cX11_word 56 = .ok (.bipush 6, 2) := by decide +kernel
theorem dX11_word_58 : decode cX11_word 58 = .ok (.if_icmp .ge 7, 3) := by decide +kernel
theorem dX11_word_61 : decode cX11_word 61 = .ok (.iconst 1, 1) := by decide +kernel
theorem dX11_word_62 : decode cX11_word 62 = .ok (.goto 4, 3) := by decide +kernel
theorem dX11_word_65 : decode cX11_word 65 = .ok (.iconst 0, 1) := by decide +kernel
theorem dX11_word_66 : decode cX11_word 66 = .ok (.istore_n 2, 1) := by decide +kernel
theorem dX11_word_67 : decode cX11_word 67 = .ok (.iload_n 2, 1) := by decide +kernel
theorem dX11_word_68 : decode cX11_word 68 = .ok (.ifCond .eq 17, 3) := by decide +kernel
theorem dX11_word_71 : decode cX11_word 71 = .ok (.iload_n 1, 1) := by decide +kernel
theorem dX11_word_72 : decode cX11_word 72 = .ok (.aload_n 0, 1) := by decide +kernel
theorem dX11_word_73 : decode cX11_word 73 = .ok (.getfield 26, 3) := by decide +kernel
theorem dX11_word_76 : decode cX11_word 76 = .ok (.iload 4, 2) := by decide +kernel
theorem dX11_word_78 : decode cX11_word 78 = .ok (.iaload, 1) := by decide +kernel
theorem dX11_word_79 : decode cX11_word 79 = .ok (.invokestatic 146, 3) := by decide +kernel
theorem dX11_word_82 : decode cX11_word 82 = .ok (.goto 4, 3) := by decide +kernel
theorem dX11_word_85 : decode cX11_word 85 = .ok (.iconst 0, 1) := by decide +kernel
theorem dX11_word_86 : decode cX11_word 86 = .ok (.istore_n 1, 1) := by decide +kernel
theorem dX11_word_87 : decode cX11_word 87 = .ok (.iinc 3 1, 3) := by decide +kernel
theorem dX11_word_90 : decode cX11_word 90 = .ok (.iinc 4 1, 3) := by decide +kernel
theorem dX11_word_93 : decode cX11_word 93 = .ok (.goto (-76), 3) := by decide +kernel
theorem dX11_word_96 : decode cX11_word 96 = .ok (.iload_n 2, 1) := by decide +kernel
theorem dX11_word_97 : decode cX11_word 97 = .ok (.ifCond .eq 7, 3) := by decide +kernel
theorem dX11_word_100 : decode cX11_word 100 = .ok (.iload_n 1, 1) := by decide +kernel
theorem dX11_word_101 : decode cX11_word 101 = .ok (.goto 4, 3) := by decide +kernel
theorem dX11_word_104 : decode cX11_word 104 = .ok (.iconst 0, 1) := by decide +kernel
theorem dX11_word_105 : decode cX11_word 105 = .ok (.ireturn, 1) := by decide +kernel
theorem dX11_spelt_0 : decode cX11_spelt 0 = .ok (.iconst 0, 1) := by decide +kernel
theorem dX11_spelt_1 : decode cX11_spelt 1 = .ok (.iload_n 0, 1) := by decide +kernel
theorem dX11_spelt_2 : decode cX11_spelt 2 = .ok (.invokestatic 146, 3) := by decide +kernel
theorem dX11_spelt_5 : decode cX11_spelt 5 = .ok (.istore 6, 2) := by decide +kernel
theorem dX11_spelt_7 : decode cX11_spelt 7 = .ok (.iload_n 1, 1) := by decide +kernel
theorem dX11_spelt_8 : decode cX11_spelt 8 = .ok (.ifCond .ne 8, 3) := by decide +kernel
theorem dX11_spelt_11 : decode cX11_spelt 11 = .ok (.iload 6, 2) := by decide +kernel
theorem dX11_spelt_13 : decode cX11_spelt 13 = .ok (.goto 9, 3) := by decide +kernel
theorem dX11_spelt_16 : decode cX11_spelt 16 = .ok (.iload 6, 2) := by decide +kernel
theorem dX11_spelt_18 : decode cX11_spelt 18 = .ok (.iload_n 1, 1) := by decide +kernel
theorem dX11_spelt_19 : decode cX11_spelt 19 = .ok (.invokestatic 146, 3) := by decide +kernel
theorem dX11_spelt_22 : decode cX11_spelt 22 = .ok (.istore 6, 2) := by decide +kernel
theorem dX11_spelt_24 : decode cX11_spelt 24 = .ok (.iload_n 2, 1) := by decide +kernel
theorem dX11_spelt_25 : decode cX11_spelt 25 = .ok (.ifCond .ne 8, 3) := by decide +kernel
theorem dX11_spelt_28 : decode cX11_spelt 28 = .ok (.iload 6, 2) := by decide +kernel
theorem dX11_spelt_30 : decode cX11_spelt 30 = .ok (.goto 9, 3) := by decide +kernel
theorem dX11_spelt_33 : decode cX11_spelt 33 = .ok (.iload 6, 2) := by decide +kernel
theorem dX11_spelt_35 : decode cX11_spelt 35 = .ok (.iload_n 2, 1) := by decide +kernel
theorem dX11_spelt_36 : decode cX11_spelt 36 = .ok (.invokestatic 146, 3) := by decide +kernel
theorem dX11_spelt_39 : decode cX11_spelt 39 = .ok (.istore 6, 2) := by decide +kernel
theorem dX11_spelt_41 : decode cX11_spelt 41 = .ok (.iload_n 3, 1) := by decide +kernel
theorem dX11_spelt_42 : decode cX11_spelt 42 = .ok (.ifCond .ne 8, 3) := by decide +kernel
theorem dX11_spelt_45 : decode cX11_spelt 45 = .ok (.iload 6, 2) := by decide +kernel
theorem dX11_spelt_47 : decode cX11_spelt 47 = .ok (.goto 9, 3) := by decide +kernel
theorem dX11_spelt_50 : decode cX11_spelt 50 = .ok (.iload 6, 2) := by decide +kernel
theorem dX11_spelt_52 : decode cX11_spelt 52 = .ok (.iload_n 3, 1) := by decide +kernel
theorem dX11_spelt_53 : decode cX11_spelt 53 = .ok (.invokestatic 146, 3) := by decide +kernel
theorem dX11_spelt_56 : decode cX11_spelt 56 = .ok (.istore 6, 2) := by decide +kernel
theorem dX11_spelt_58 : decode cX11_spelt 58 = .ok (.iload 4, 2) := by decide +kernel
theorem dX11_spelt_60 : decode cX11_spelt 60 = .ok (.ifCond .ne 8, 3) := by decide +kernel
theorem dX11_spelt_63 : decode cX11_spelt 63 = .ok (.iload 6, 2) := by decide +kernel
theorem dX11_spelt_65 : decode cX11_spelt 65 = .ok (.goto 10, 3) := by decide +kernel
theorem dX11_spelt_68 : decode cX11_spelt 68 = .ok (.iload 6, 2) := by decide +kernel
theorem dX11_spelt_70 : decode cX11_spelt 70 = .ok (.iload 4, 2) := by decide +kernel
theorem dX11_spelt_72 : decode cX11_spelt 72 = .ok (.invokestatic 146, 3) := by decide +kernel
theorem dX11_spelt_75 : decode cX11_spelt 75 = .ok (.istore 6, 2) := by decide +kernel
theorem dX11_spelt_77 : decode cX11_spelt 77 = .ok (.iload 5, 2) := by decide +kernel
theorem dX11_spelt_79 : decode cX11_spelt 79 = .ok (.ifCond .ne 8, 3) := by decide +kernel
theorem dX11_spelt_82 : decode cX11_spelt 82 = .ok (.iload 6, 2) := by decide +kernel
theorem dX11_spelt_84 : decode cX11_spelt 84 = .ok (.goto 10, 3) := by decide +kernel
theorem dX11_spelt_87 : decode cX11_spelt 87 = .ok (.iload 6, 2) := by decide +kernel
theorem dX11_spelt_89 : decode cX11_spelt 89 = .ok (.iload 5, 2) := by decide +kernel
theorem dX11_spelt_91 : decode cX11_spelt 91 = .ok (.invokestatic 146, 3) := by decide +kernel
theorem dX11_spelt_94 : decode cX11_spelt 94 = .ok (.ireturn, 1) := by decide +kernel
theorem dX11_pass_0 : decode cX11_pass 0 = .ok (.aload_n 0, 1) := by decide +kernel
theorem dX11_pass_1 : decode cX11_pass 1 = .ok (.getfield 132, 3) := by decide +kernel
theorem dX11_pass_4 : decode cX11_pass 4 = .ok (.aload_n 0, 1) := by decide +kernel
theorem dX11_pass_5 : decode cX11_pass 5 = .ok (.getfield 135, 3) := by decide +kernel
theorem dX11_pass_8 : decode cX11_pass 8 = .ok (.if_icmp .ge 31, 3) := by decide +kernel
theorem dX11_pass_11 : decode cX11_pass 11 = .ok (.aload_n 0, 1) := by decide +kernel
theorem dX11_pass_12 : decode cX11_pass 12 = .ok (.getfield 26, 3) := by decide +kernel
theorem dX11_pass_15 : decode cX11_pass 15 = .ok (.aload_n 0, 1) := by decide +kernel
theorem dX11_pass_16 : decode cX11_pass 16 = .ok (.getfield 132, 3) := by decide +kernel
theorem dX11_pass_19 : decode cX11_pass 19 = .ok (.iaload, 1) := by decide +kernel
theorem dX11_pass_20 : decode cX11_pass 20 = .ok (.invokestatic 142, 3) := by decide +kernel
theorem dX11_pass_23 : decode cX11_pass 23 = .ok (.ifCond .eq 16, 3) := by decide +kernel
theorem dX11_pass_26 : decode cX11_pass 26 = .ok (.aload_n 0, 1) := by decide +kernel
theorem dX11_pass_27 : decode cX11_pass 27 = .ok (.dup, 1) := by decide +kernel
theorem dX11_pass_28 : decode cX11_pass 28 = .ok (.getfield 132, 3) := by decide +kernel
theorem dX11_pass_31 : decode cX11_pass 31 = .ok (.iconst 1, 1) := by decide +kernel
theorem dX11_pass_32 : decode cX11_pass 32 = .ok (.iadd, 1) := by decide +kernel
theorem dX11_pass_33 : decode cX11_pass 33 = .ok (.putfield 132, 3) := by decide +kernel
theorem dX11_pass_36 : decode cX11_pass 36 = .ok (.goto (-36), 3) := by decide +kernel
theorem dX11_pass_39 : decode cX11_pass 39 = .ok (.return_, 1) := by decide +kernel
theorem dX11_number_0 : decode cX11_number 0 = .ok (.aload_n 0, 1) := by decide +kernel
theorem dX11_number_1 : decode cX11_number 1 = .ok (.invokevirtual 149, 3) := by decide +kernel
theorem dX11_number_4 : decode cX11_number 4 = .ok (.ifCond .ne 5, 3) := by decide +kernel
theorem dX11_number_7 : decode cX11_number 7 = .ok (.iconst 0, 1) := by decide +kernel
theorem dX11_number_8 : decode cX11_number 8 = .ok (.ireturn, 1) := by decide +kernel
theorem dX11_number_9 : decode cX11_number 9 = .ok (.aload_n 0, 1) := by decide +kernel
theorem dX11_number_10 : decode cX11_number 10 = .ok (.invokevirtual 138, 3) := by decide +kernel
theorem dX11_number_13 : decode cX11_number 13 = .ok (.pop, 1) := by decide +kernel
theorem dX11_number_14 : decode cX11_number 14 = .ok (.aload_n 0, 1) := by decide +kernel
theorem dX11_number_15 : decode cX11_number 15 = .ok (.getfield 132, 3) := by decide +kernel
theorem dX11_number_18 : decode cX11_number 18 = .ok (.istore_n 3, 1) := by decide +kernel
theorem dX11_number_19 : decode cX11_number 19 = .ok (.iconst 0, 1) := by decide +kernel
theorem dX11_number_20 : decode cX11_number 20 = .ok (.istore 4, 2) := by decide +kernel
theorem dX11_number_22 : decode cX11_number 22 = .ok (.iconst 0, 1) := by decide +kernel
theorem dX11_number_23 : decode cX11_number 23 = .ok (.istore 5, 2) := by decide +kernel
theorem dX11_number_25 : decode cX11_number 25 = .ok (.aload_n 0, 1) := by decide +kernel
theorem dX11_number_26 : decode cX11_number 26 = .ok (.getfield 132, 3) := by decide +kernel
theorem dX11_number_29 : decode cX11_number 29 = .ok (.aload_n 0, 1) := by decide +kernel
theorem dX11_number_30 : decode cX11_number 30 = .ok (.getfield 135, 3) := by decide +kernel
theorem dX11_number_33 : decode cX11_number 33 = .ok (.if_icmp .ge 65, 3) := by decide +kernel
theorem dX11_number_36 : decode cX11_number 36 = .ok (.aload_n 0, 1) := by decide +kernel
theorem dX11_number_37 : decode cX11_number 37 = .ok (.getfield 26, 3) := by decide +kernel
theorem dX11_number_40 : decode cX11_number 40 = .ok (.aload_n 0, 1) := by decide +kernel
theorem dX11_number_41 : decode cX11_number 41 = .ok (.getfield 132, 3) := by decide +kernel
theorem dX11_number_44 : decode cX11_number 44 = .ok (.iaload, 1) := by decide +kernel
theorem dX11_number_45 : decode cX11_number 45 = .ok (.invokestatic 153, 3) := by decide +kernel
theorem dX11_number_48 : decode cX11_number 48 = .ok (.ifCond .eq 50, 3) := by decide +kernel
theorem dX11_number_51 : decode cX11_number 51 = .ok (.iload 5, 2) := by decide +kernel
theorem dX11_number_53 : decode cX11_number 53 = .ok (.iconst 4, 1) := by decide +kernel
theorem dX11_number_54 : decode cX11_number 54 = .ok (.if_icmp .ge 24, 3) := by decide +kernel
theorem dX11_number_57 : decode cX11_number 57 = .ok (.bipush 10, 2) := by decide +kernel
theorem dX11_number_59 : decode cX11_number 59 = .ok (.iload 4, 2) := by decide +kernel
theorem dX11_number_61 : decode cX11_number 61 = .ok (.imul, 1) := by decide +kernel
theorem dX11_number_62 : decode cX11_number 62 = .ok (.aload_n 0, 1) := by decide +kernel
theorem dX11_number_63 : decode cX11_number 63 = .ok (.getfield 26, 3) := by decide +kernel
theorem dX11_number_66 : decode cX11_number 66 = .ok (.aload_n 0, 1) := by decide +kernel
theorem dX11_number_67 : decode cX11_number 67 = .ok (.getfield 132, 3) := by decide +kernel
theorem dX11_number_70 : decode cX11_number 70 = .ok (.iaload, 1) := by decide +kernel
theorem dX11_number_71 : decode cX11_number 71 = .ok (.iadd, 1) := by decide +kernel
theorem dX11_number_72 : decode cX11_number 72 = .ok (.bipush 48, 2) := by decide +kernel
theorem dX11_number_74 : decode cX11_number 74 = .ok (.isub, 1) := by decide +kernel
theorem dX11_number_75 : decode cX11_number 75 = .ok (.goto 5, 3) := by decide +kernel
theorem dX11_number_78 : decode cX11_number 78 = .ok (.iload 4, 2) := by decide +kernel
theorem dX11_number_80 : decode cX11_number 80 = .ok (.istore 4, 2) := by decide +kernel
theorem dX11_number_82 : decode cX11_number 82 = .ok (.iinc 5 1, 3) := by decide +kernel
theorem dX11_number_85 : decode cX11_number 85 = .ok (.aload_n 0, 1) := by decide +kernel
theorem dX11_number_86 : decode cX11_number 86 = .ok (.dup, 1) := by decide +kernel
theorem dX11_number_87 : decode cX11_number 87 = .ok (.getfield 132, 3) := by decide +kernel
theorem dX11_number_90 : decode cX11_number 90 = .ok (.iconst 1, 1) := by decide +kernel
theorem dX11_number_91 : decode cX11_number 91 = .ok (.iadd, 1) := by decide +kernel
theorem dX11_number_92 : decode cX11_number 92 = .ok (.putfield 132, 3) := by decide +kernel
theorem dX11_number_95 : decode cX11_number 95 = .ok (.goto (-70), 3) := by decide +kernel
theorem dX11_number_98 : decode cX11_number 98 = .ok (.iload 5, 2) := by decide +kernel
theorem dX11_number_100 : decode cX11_number 100 = .ok (.iconst 1, 1) := by decide +kernel
theorem dX11_number_101 : decode cX11_number 101 = .ok (.iconst 4, 1) := by decide +kernel
theorem dX11_number_102 : decode cX11_number 102 = .ok (.invokestatic 100, 3) := by decide +kernel
theorem dX11_number_105 : decode cX11_number 105 = .ok (.ifCond .ne 12, 3) := by decide +kernel
theorem dX11_number_108 : decode cX11_number 108 = .ok (.aload_n 0, 1) := by decide +kernel
theorem dX11_number_109 : decode cX11_number 109 = .ok (.iconst 1, 1) := by decide +kernel
theorem dX11_number_110 : decode cX11_number 110 = .ok (.iload_n 3, 1) := by decide +kernel
theorem dX11_number_111 : decode cX11_number 111 = .ok (.invokevirtual 156, 3) := by decide +kernel
theorem dX11_number_114 : decode cX11_number 114 = .ok (.goto 19, 3) := by decide +kernel
theorem dX11_number_117 : decode cX11_number 117 = .ok (.iload 4, 2) := by decide +kernel
theorem dX11_number_119 : decode cX11_number 119 = .ok (.iload_n 1, 1) := by decide +kernel
theorem dX11_number_120 : decode cX11_number 120 = .ok (.iload_n 2, 1) := by decide +kernel
theorem dX11_number_121 : decode cX11_number 121 = .ok (.invokestatic 100, 3) := by decide +kernel
theorem dX11_number_124 : decode cX11_number 124 = .ok (.ifCond .ne 9, 3) := by decide +kernel
theorem dX11_number_127 : decode cX11_number 127 = .ok (.aload_n 0, 1) := by decide +kernel
theorem dX11_number_128 : decode cX11_number 128 = .ok (.iconst 2, 1) := by decide +kernel
theorem dX11_number_129 : decode cX11_number 129 = .ok (.iload_n 3, 1) := by decide +kernel
theorem dX11_number_130 : decode cX11_number 130 = .ok (.invokevirtual 156, 3) := by decide +kernel
theorem dX11_number_133 : decode cX11_number 133 = .ok (.aload_n 0, 1) := by decide +kernel
theorem dX11_number_134 : decode cX11_number 134 = .ok (.invokevirtual 149, 3) := by decide +kernel
theorem dX11_number_137 : decode cX11_number 137 = .ok (.ifCond .eq 8, 3) := by decide +kernel
theorem dX11_number_140 : decode cX11_number 140 = .ok (.iload 4, 2) := by decide +kernel
theorem dX11_number_142 : decode cX11_number 142 = .ok (.goto 4, 3) := by decide +kernel
theorem dX11_number_145 : decode cX11_number 145 = .ok (.iconst 0, 1) := by decide +kernel
theorem dX11_number_146 : decode cX11_number 146 = .ok (.ireturn, 1) := by decide +kernel
theorem dX11_sign_0 : decode cX11_sign 0 = .ok (.aload_n 0, 1) := by decide +kernel
theorem dX11_sign_1 : decode cX11_sign 1 = .ok (.invokevirtual 149, 3) := by decide +kernel
theorem dX11_sign_4 : decode cX11_sign 4 = .ok (.ifCond .eq 20, 3) := by decide +kernel
theorem dX11_sign_7 : decode cX11_sign 7 = .ok (.aload_n 0, 1) := by decide +kernel
theorem dX11_sign_8 : decode cX11_sign 8 = .ok (.invokevirtual 138, 3) := by decide +kernel
theorem dX11_sign_11 : decode cX11_sign 11 = .ok (.iload_n 1, 1) := by decide +kernel
theorem dX11_sign_12 : decode cX11_sign 12 = .ok (.if_icmp .eq 12, 3) := by decide +kernel
theorem dX11_sign_15 : decode cX11_sign 15 = .ok (.aload_n 0, 1) := by decide +kernel
theorem dX11_sign_16 : decode cX11_sign 16 = .ok (.iconst 1, 1) := by decide +kernel
theorem dX11_sign_17 : decode cX11_sign 17 = .ok (.aload_n 0, 1) := by decide +kernel
theorem dX11_sign_18 : decode cX11_sign 18 = .ok (.getfield 132, 3) := by decide +kernel
theorem dX11_sign_21 : decode cX11_sign 21 = .ok (.invokevirtual 156, 3) := by decide +kernel
theorem dX11_sign_24 : decode cX11_sign 24 = .ok (.aload_n 0, 1) := by decide +kernel
theorem dX11_sign_25 : decode cX11_sign 25 = .ok (.invokevirtual 149, 3) := by decide +kernel
theorem dX11_sign_28 : decode cX11_sign 28 = .ok (.ifCond .eq 13, 3) := by decide +kernel
theorem dX11_sign_31 : decode cX11_sign 31 = .ok (.aload_n 0, 1) := by decide +kernel
theorem dX11_sign_32 : decode cX11_sign 32 = .ok (.dup, 1) := by decide +kernel
theorem dX11_sign_33 : decode cX11_sign 33 = .ok (.getfield 132, 3) := by decide +kernel
theorem dX11_sign_36 : decode cX11_sign 36 = .ok (.iconst 1, 1) := by decide +kernel
theorem dX11_sign_37 : decode cX11_sign 37 = .ok (.iadd, 1) := by decide +kernel
theorem dX11_sign_38 : decode cX11_sign 38 = .ok (.putfield 132, 3) := by decide +kernel
theorem dX11_sign_41 : decode cX11_sign 41 = .ok (.return_, 1) := by decide +kernel
theorem dX11_mayBegin_0 : decode cX11_mayBegin 0 = .ok (.iload_n 1, 1) := by decide +kernel
theorem dX11_mayBegin_1 : decode cX11_mayBegin 1 = .ok (.ifCond .ne 15, 3) := by decide +kernel
theorem dX11_mayBegin_4 : decode cX11_mayBegin 4 = .ok (.aload_n 0, 1) := by decide +kernel
theorem dX11_mayBegin_5 : decode cX11_mayBegin 5 = .ok (.iconst 1, 1) := by decide +kernel
theorem dX11_mayBegin_6 : decode cX11_mayBegin 6 = .ok (.aload_n 0, 1) := by decide +kernel
theorem dX11_mayBegin_7 : decode cX11_mayBegin 7 = .ok (.getfield 132, 3) := by decide +kernel
theorem dX11_mayBegin_10 : decode cX11_mayBegin 10 = .ok (.invokevirtual 156, 3) := by decide +kernel
theorem dX11_mayBegin_13 : decode cX11_mayBegin 13 = .ok (.goto 16, 3) := by decide +kernel
theorem dX11_mayBegin_16 : decode cX11_mayBegin 16 = .ok (.iload_n 2, 1) := by decide +kernel
theorem dX11_mayBegin_17 : decode cX11_mayBegin 17 = .ok (.ifCond .eq 12, 3) := by decide +kernel
theorem dX11_mayBegin_20 : decode cX11_mayBegin 20 = .ok (.aload_n 0, 1) := by decide +kernel
theorem dX11_mayBegin_21 : decode cX11_mayBegin 21 = .ok (.iconst 3, 1) := by decide +kernel
theorem dX11_mayBegin_22 : decode cX11_mayBegin 22 = .ok (.aload_n 0, 1) := by decide +kernel
theorem dX11_mayBegin_23 : decode cX11_mayBegin 23 = .ok (.getfield 132, 3) := by decide +kernel
theorem dX11_mayBegin_26 : decode cX11_mayBegin 26 = .ok (.invokevirtual 156, 3) := by decide +kernel
theorem dX11_mayBegin_29 : decode cX11_mayBegin 29 = .ok (.aload_n 0, 1) := by decide +kernel
theorem dX11_mayBegin_30 : decode cX11_mayBegin 30 = .ok (.invokevirtual 149, 3) := by decide +kernel
theorem dX11_mayBegin_33 : decode cX11_mayBegin 33 = .ok (.ifCond .eq 7, 3) := by decide +kernel
theorem dX11_mayBegin_36 : decode cX11_mayBegin 36 = .ok (.aload_n 0, 1) := by decide +kernel
theorem dX11_mayBegin_37 : decode cX11_mayBegin 37 = .ok (.invokevirtual 163, 3) := by decide +kernel
theorem dX11_mayBegin_40 : decode cX11_mayBegin 40 = .ok (.return_, 1) := by decide +kernel
theorem dX11_text_0 : decode cX11_text 0 = .ok (.aload_n 0, 1) := by decide +kernel
theorem dX11_text_1 : decode cX11_text 1 = .ok (.aload_n 0, 1) := by decide +kernel
theorem dX11_text_2 : decode cX11_text 2 = .ok (.getfield 123, 3) := by decide +kernel
theorem dX11_text_5 : decode cX11_text 5 = .ok (.putfield 135, 3) := by decide +kernel
theorem dX11_text_8 : decode cX11_text 8 = .ok (.aload_n 0, 1) := by decide +kernel
theorem dX11_text_9 : decode cX11_text 9 = .ok (.iconst 0, 1) := by decide +kernel
theorem dX11_text_10 : decode cX11_text 10 = .ok (.putfield 123, 3) := by decide +kernel
theorem dX11_text_13 : decode cX11_text 13 = .ok (.aload_n 0, 1) := by decide +kernel
theorem dX11_text_14 : decode cX11_text 14 = .ok (.iconst 0, 1) := by decide +kernel
theorem dX11_text_15 : decode cX11_text 15 = .ok (.putfield 132, 3) := by decide +kernel
theorem dX11_text_18 : decode cX11_text 18 = .ok (.aload_n 0, 1) := by decide +kernel
theorem dX11_text_19 : decode cX11_text 19 = .ok (.iconst (-1), 1) := by decide +kernel
theorem dX11_text_20 : decode cX11_text 20 = .ok (.putfield 126, 3) := by decide +kernel
theorem dX11_text_23 : decode cX11_text 23 = .ok (.aload_n 0, 1) := by decide +kernel
theorem dX11_text_24 : decode cX11_text 24 = .ok (.iconst 0, 1) := by decide +kernel
theorem dX11_text_25 : decode cX11_text 25 = .ok (.putfield 129, 3) := by decide +kernel
theorem dX11_text_28 : decode cX11_text 28 = .ok (.aload_n 0, 1) := by decide +kernel
theorem dX11_text_29 : decode cX11_text 29 = .ok (.iconst 0, 1) := by decide +kernel
theorem dX11_text_30 : decode cX11_text 30 = .ok (.putfield 166, 3) := by decide +kernel
theorem dX11_text_33 : decode cX11_text 33 = .ok (.aload_n 0, 1) := by decide +kernel
theorem dX11_text_34 : decode cX11_text 34 = .ok (.iconst 0, 1) := by decide +kernel
theorem dX11_text_35 : decode cX11_text 35 = .ok (.putfield 169, 3) := by decide +kernel
theorem dX11_text_38 : decode cX11_text 38 = .ok (.aload_n 0, 1) := by decide +kernel
theorem dX11_text_39 : decode cX11_text 39 = .ok (.iconst (-1), 1) := by decide +kernel
theorem dX11_text_40 : decode cX11_text 40 = .ok (.putfield 22, 3) := by decide +kernel
theorem dX11_text_43 : decode cX11_text 43 = .ok (.iload_n 1, 1) := by decide +kernel
theorem dX11_text_44 : decode cX11_text 44 = .ok (.iconst 0, 1) := by decide +kernel
theorem dX11_text_45 : decode cX11_text 45 = .ok (.iconst 3, 1) := by decide +kernel
theorem dX11_text_46 : decode cX11_text 46 = .ok (.invokestatic 100, 3) := by decide +kernel
theorem dX11_text_49 : decode cX11_text 49 = .ok (.ifCond .ne 5, 3) := by decide +kernel
theorem dX11_text_52 : decode cX11_text 52 = .ok (.iconst (-1), 1) := by decide +kernel
theorem dX11_text_53 : decode cX11_text 53 = .ok (.ireturn, 1) := by decide +kernel
theorem dX11_text_54 : decode cX11_text 54 = .ok (.aload_n 0, 1) := by decide +kernel
theorem dX11_text_55 : decode cX11_text 55 = .ok (.getfield 9, 3) := by decide +kernel
theorem dX11_text_58 : decode cX11_text 58 = .ok (.aload_n 0, 1) := by decide +kernel
theorem dX11_text_59 : decode cX11_text 59 = .ok (.getfield 29, 3) := by decide +kernel
theorem dX11_text_62 : decode cX11_text 62 = .ok (.sipush 2425, 3) := by decide +kernel
theorem dX11_text_65 : decode cX11_text 65 = .ok (.invokestatic 86, 3) := by decide +kernel
theorem dX11_text_68 : decode cX11_text 68 = .ok (.iconst 0, 1) := by decide +kernel
theorem dX11_text_69 : decode cX11_text 69 = .ok (.istore_n 2, 1) := by decide +kernel
theorem dX11_text_70 : decode cX11_text 70 = .ok (.aload_n 0, 1) := by decide +kernel
theorem dX11_text_71 : decode cX11_text 71 = .ok (.iconst 0, 1) := by decide +kernel
theorem dX11_text_72 : decode cX11_text 72 = .ok (.putfield 172, 3) := by decide +kernel
theorem dX11_text_75 : decode cX11_text 75 = .ok (.iload_n 1, 1) := by decide +kernel
theorem dX11_text_76 : decode cX11_text 76 = .ok (.iconst 1, 1) := by decide +kernel
theorem dX11_text_77 : decode cX11_text 77 = .ok (.if_icmp .ne 25, 3) := by decide +kernel
theorem dX11_text_80 : decode cX11_text 80 = .ok (.iconst 0, 1) := by decide +kernel
theorem dX11_text_81 : decode cX11_text 81 = .ok (.istore_n 3, 1) := by decide +kernel
theorem dX11_text_82 : decode cX11_text 82 = .ok (.iload_n 3, 1) := by decide +kernel
theorem dX11_text_83 : decode cX11_text 83 = .ok (.sipush 144, 3) := by decide +kernel
theorem dX11_text_86 : decode cX11_text 86 = .ok (.if_icmp .ge 16, 3) := by decide +kernel
theorem dX11_text_89 : decode cX11_text 89 = .ok (.aload_n 0, 1) := by decide +kernel
theorem dX11_text_90 : decode cX11_text 90 = .ok (.getfield 29, 3) := by decide +kernel
theorem dX11_text_93 : decode cX11_text 93 = .ok (.iload_n 3, 1) := by decide +kernel
theorem dX11_text_94 : decode cX11_text 94 = .ok (.iconst 0, 1) := by decide +kernel
theorem dX11_text_95 : decode cX11_text 95 = .ok (.iastore, 1) := by decide +kernel
theorem dX11_text_96 : decode cX11_text 96 = .ok (.iinc 3 1, 3) := by decide +kernel
theorem dX11_text_99 : decode cX11_text 99 = .ok (.goto (-17), 3) := by decide +kernel
theorem dX11_text_102 : decode cX11_text 102 = .ok (.iload_n 1, 1) := by decide +kernel
theorem dX11_text_103 : decode cX11_text 103 = .ok (.iconst 2, 1) := by decide +kernel
theorem dX11_text_104 : decode cX11_text 104 = .ok (.if_icmp .ne 27, 3) := by decide +kernel
theorem dX11_text_107 : decode cX11_text 107 = .ok (.sipush 1925, 3) := by decide +kernel
theorem dX11_text_110 : decode cX11_text 110 = .ok (.istore_n 3, 1) := by decide +kernel
theorem dX11_text_111 : decode cX11_text 111 = .ok (.iload_n 3, 1) := by decide +kernel
theorem dX11_text_112 : decode cX11_text 112 = .ok (.sipush 2325, 3) := by decide +kernel
theorem dX11_text_115 : decode cX11_text 115 = .ok (.if_icmp .ge 16, 3) := by decide +kernel
theorem dX11_text_118 : decode cX11_text 118 = .ok (.aload_n 0, 1) := by decide +kernel
theorem dX11_text_119 : decode cX11_text 119 = .ok (.getfield 29, 3) := by decide +kernel
theorem dX11_text_122 : decode cX11_text 122 = .ok (.iload_n 3, 1) := by decide +kernel
theorem dX11_text_123 : decode cX11_text 123 = .ok (.iconst 0, 1) := by decide +kernel
theorem dX11_text_124 : decode cX11_text 124 = .ok (.iastore, 1) := by decide +kernel
theorem dX11_text_125 : decode cX11_text 125 = .ok (.iinc 3 1, 3) := by decide +kernel
theorem dX11_text_128 : decode cX11_text 128 = .ok (.goto (-17), 3) := by decide +kernel
theorem dX11_text_131 : decode cX11_text 131 = .ok (.aload_n 0, 1) := by decide +kernel
theorem dX11_text_132 : decode cX11_text 132 = .ok (.invokevirtual 149, 3) := by decide +kernel
theorem dX11_text_135 : decode cX11_text 135 = .ok (.ifCond .eq 76, 3) := by decide +kernel
theorem dX11_text_138 : decode cX11_text 138 = .ok (.aload_n 0, 1) := by decide +kernel
theorem dX11_text_139 : decode cX11_text 139 = .ok (.invokevirtual 138, 3) := by decide +kernel
theorem dX11_text_142 : decode cX11_text 142 = .ok (.ifCond .lt 69, 3) := by decide +kernel
theorem dX11_text_145 : decode cX11_text 145 = .ok (.aload_n 0, 1) := by decide +kernel
theorem dX11_text_146 : decode cX11_text 146 = .ok (.getfield 132, 3) := by decide +kernel
theorem dX11_text_149 : decode cX11_text 149 = .ok (.aload_n 0, 1) := by decide +kernel
theorem dX11_text_150 : decode cX11_text 150 = .ok (.getfield 135, 3) := by decide +kernel
theorem dX11_text_153 : decode cX11_text 153 = .ok (.if_icmp .ge 58, 3) := by decide +kernel
theorem dX11_text_156 : decode cX11_text 156 = .ok (.iload_n 1, 1) := by decide +kernel
theorem dX11_text_157 : decode cX11_text 157 = .ok (.ifCond .ne 11, 3) := by decide +kernel
theorem dX11_text_160 : decode cX11_text 160 = .ok (.aload_n 0, 1) := by decide +kernel
theorem dX11_text_161 : decode cX11_text 161 = .ok (.iload_n 2, 1) := by decide +kernel
theorem dX11_text_162 : decode cX11_text 162 = .ok (.invokevirtual 175, 3) := by decide +kernel
theorem dX11_text_165 : decode cX11_text 165 = .ok (.goto 34, 3) := by decide +kernel
theorem dX11_text_168 : decode cX11_text 168 = .ok (.iload_n 1, 1) := by decide +kernel
theorem dX11_text_169 : decode cX11_text 169 = .ok (.iconst 1, 1) := by decide +kernel
theorem dX11_text_170 : decode cX11_text 170 = .ok (.if_icmp .ne 11, 3) := by decide +kernel
theorem dX11_text_173 : decode cX11_text 173 = .ok (.aload_n 0, 1) := by decide +kernel
theorem dX11_text_174 : decode cX11_text 174 = .ok (.iload_n 2, 1) := by decide +kernel
theorem dX11_text_175 : decode cX11_text 175 = .ok (.invokevirtual 179, 3) := by decide +kernel
theorem dX11_text_178 : decode cX11_text 178 = .ok (.goto 21, 3) := by decide +kernel
theorem dX11_text_181 : decode cX11_text 181 = .ok (.iload_n 1, 1) := by decide +kernel
theorem dX11_text_182 : decode cX11_text 182 = .ok (.iconst 2, 1) := by decide +kernel
theorem dX11_text_183 : decode cX11_text 183 = .ok (.if_icmp .ne 11, 3) := by decide +kernel
theorem dX11_text_186 : decode cX11_text 186 = .ok (.aload_n 0, 1) := by decide +kernel
theorem dX11_text_187 : decode cX11_text 187 = .ok (.iload_n 2, 1) := by decide +kernel
theorem dX11_text_188 : decode cX11_text 188 = .ok (.invokevirtual 182, 3) := by decide +kernel
theorem dX11_text_191 : decode cX11_text 191 = .ok (.goto 8, 3) := by decide +kernel
theorem dX11_text_194 : decode cX11_text 194 = .ok (.aload_n 0, 1) := by decide +kernel
theorem dX11_text_195 : decode cX11_text 195 = .ok (.iload_n 2, 1) := by decide +kernel
theorem dX11_text_196 : decode cX11_text 196 = .ok (.invokevirtual 185, 3) := by decide +kernel
theorem dX11_text_199 : decode cX11_text 199 = .ok (.aload_n 0, 1) := by decide +kernel
theorem dX11_text_200 : decode cX11_text 200 = .ok (.bipush 59, 2) := by decide +kernel
theorem dX11_text_202 : decode cX11_text 202 = .ok (.invokevirtual 188, 3) := by decide +kernel
theorem dX11_text_205 : decode cX11_text 205 = .ok (.iinc 2 1, 3) := by decide +kernel
theorem dX11_text_208 : decode cX11_text 208 = .ok (.goto (-77), 3) := by decide +kernel
theorem dX11_text_211 : decode cX11_text 211 = .ok (.aload_n 0, 1) := by decide +kernel
theorem dX11_text_212 : decode cX11_text 212 = .ok (.invokevirtual 149, 3) := by decide +kernel
theorem dX11_text_215 : decode cX11_text 215 = .ok (.ifCond .ne 21, 3) := by decide +kernel
theorem dX11_text_218 : decode cX11_text 218 = .ok (.aload_n 0, 1) := by decide +kernel
theorem dX11_text_219 : decode cX11_text 219 = .ok (.aload_n 0, 1) := by decide +kernel
theorem dX11_text_220 : decode cX11_text 220 = .ok (.getfield 129, 3) := by decide +kernel
theorem dX11_text_223 : decode cX11_text 223 = .ok (.putfield 169, 3) := by decide +kernel
