theorem dX11_with_73 : decode cX11_with 73 = .ok (.iload 6, 2) := by decide +kernel
theorem dX11_with_75 : decode cX11_with 75 = .ok (.iconst 3, 1) := by decide +kernel
theorem dX11_with_76 : decode cX11_with 76 = .ok (.iconst 4, 1) := by decide +kernel
theorem dX11_with_77 : decode cX11_with 77 = .ok (.iload_n 1, 1) := by decide +kernel
theorem dX11_with_78 : decode cX11_with 78 = .ok (.imul, 1) := by decide +kernel
theorem dX11_with_79 : decode cX11_with 79 = .ok (.iload_n 2, 1) := by decide +kernel
theorem dX11_with_80 : decode cX11_with 80 = .ok (.iadd, 1) := by decide +kernel
theorem dX11_with_81 : decode cX11_with 81 = .ok (.imul, 1) := by decide +kernel
theorem dX11_with_82 : decode cX11_with 82 = .ok (.if_icmp .ne 7, 3) := by decide +kernel
theorem dX11_with_85 : decode cX11_with 85 = .ok (.iconst 1, 1) := by decide +kernel
theorem dX11_with_86 : decode cX11_with 86 = .ok (.goto 4, 3) := by decide +kernel
theorem dX11_with_89 : decode cX11_with 89 = .ok (.iconst 0, 1) := by decide +kernel
theorem dX11_with_90 : decode cX11_with 90 = .ok (.iastore, 1) := by decide +kernel
theorem dX11_with_91 : decode cX11_with 91 = .ok (.iinc 6 1, 3) := by decide +kernel
theorem dX11_with_94 : decode cX11_with 94 = .ok (.goto (-35), 3) := by decide +kernel
theorem dX11_with_97 : decode cX11_with 97 = .ok (.aload_n 0, 1) := by decide +kernel
theorem dX11_with_98 : decode cX11_with 98 = .ok (.iload 5, 2) := by decide +kernel
theorem dX11_with_100 : decode cX11_with 100 = .ok (.invokevirtual 353, 3) := by decide +kernel
theorem dX11_with_103 : decode cX11_with 103 = .ok (.iconst 0, 1) := by decide +kernel
theorem dX11_with_104 : decode cX11_with 104 = .ok (.istore 6, 2) := by decide +kernel
theorem dX11_with_106 : decode cX11_with 106 = .ok (.iload 6, 2) := by decide +kernel
theorem dX11_with_108 : decode cX11_with 108 = .ok (.iload 4, 2) := by decide +kernel
theorem dX11_with_110 : decode cX11_with 110 = .ok (.bipush 10, 2) := by decide +kernel
theorem dX11_with_112 : decode cX11_with 112 = .ok (.idiv, 1) := by decide +kernel
theorem dX11_with_113 : decode cX11_with 113 = .ok (.if_icmp .ge 21, 3) := by decide +kernel
theorem dX11_with_116 : decode cX11_with 116 = .ok (.aload_n 0, 1) := by decide +kernel
theorem dX11_with_117 : decode cX11_with 117 = .ok (.iload 5, 2) := by decide +kernel
theorem dX11_with_119 : decode cX11_with 119 = .ok (.invokevirtual 356, 3) := by decide +kernel
theorem dX11_with_122 : decode cX11_with 122 = .ok (.aload_n 0, 1) := by decide +kernel
theorem dX11_with_123 : decode cX11_with 123 = .ok (.iload 5, 2) := by decide +kernel
theorem dX11_with_125 : decode cX11_with 125 = .ok (.invokevirtual 353, 3) := by decide +kernel
theorem dX11_with_128 : decode cX11_with 128 = .ok (.iinc 6 1, 3) := by decide +kernel
theorem dX11_with_131 : decode cX11_with 131 = .ok (.goto (-25), 3) := by decide +kernel
theorem dX11_with_134 : decode cX11_with 134 = .ok (.iconst 0, 1) := by decide +kernel
theorem dX11_with_135 : decode cX11_with 135 = .ok (.istore 6, 2) := by decide +kernel
theorem dX11_with_137 : decode cX11_with 137 = .ok (.iconst 0, 1) := by decide +kernel
theorem dX11_with_138 : decode cX11_with 138 = .ok (.istore 7, 2) := by decide +kernel
theorem dX11_with_140 : decode cX11_with 140 = .ok (.iload 7, 2) := by decide +kernel
theorem dX11_with_142 : decode cX11_with 142 = .ok (.bipush 12, 2) := by decide +kernel
theorem dX11_with_144 : decode cX11_with 144 = .ok (.if_icmp .ge 35, 3) := by decide +kernel
theorem dX11_with_147 : decode cX11_with 147 = .ok (.iload 6, 2) := by decide +kernel
theorem dX11_with_149 : decode cX11_with 149 = .ok (.aload_n 0, 1) := by decide +kernel
theorem dX11_with_150 : decode cX11_with 150 = .ok (.getfield 47, 3) := by decide +kernel
theorem dX11_with_153 : decode cX11_with 153 = .ok (.iload 5, 2) := by decide +kernel
theorem dX11_with_155 : decode cX11_with 155 = .ok (.sipush 1728, 3) := by decide +kernel
theorem dX11_with_158 : decode cX11_with 158 = .ok (.imul, 1) := by decide +kernel
theorem dX11_with_159 : decode cX11_with 159 = .ok (.bipush 12, 2) := by decide +kernel
theorem dX11_with_161 : decode cX11_with 161 = .ok (.iload_n 3, 1) := by decide +kernel
theorem dX11_with_162 : decode cX11_with 162 = .ok (.imul, 1) := by decide +kernel
theorem dX11_with_163 : decode cX11_with 163 = .ok (.iadd, 1) := by decide +kernel
theorem dX11_with_164 : decode cX11_with 164 = .ok (.iload 7, 2) := by decide +kernel
theorem dX11_with_166 : decode cX11_with 166 = .ok (.iadd, 1) := by decide +kernel
theorem dX11_with_167 : decode cX11_with 167 = .ok (.iaload, 1) := by decide +kernel
theorem dX11_with_168 : decode cX11_with 168 = .ok (.invokestatic 350, 3) := by decide +kernel
theorem dX11_with_171 : decode cX11_with 171 = .ok (.istore 6, 2) := by decide +kernel
theorem dX11_with_173 : decode cX11_with 173 = .ok (.iinc 7 1, 3) := by decide +kernel
theorem dX11_with_176 : decode cX11_with 176 = .ok (.goto (-36), 3) := by decide +kernel
theorem dX11_with_179 : decode cX11_with 179 = .ok (.iload 6, 2) := by decide +kernel
theorem dX11_with_181 : decode cX11_with 181 = .ok (.ireturn, 1) := by decide +kernel
theorem dX11_abs_0 : decode cX11_abs 0 = .ok (.iload_n 0, 1) := by decide +kernel
theorem dX11_abs_1 : decode cX11_abs 1 = .ok (.ifCond .ge 8, 3) := by decide +kernel
theorem dX11_abs_4 : decode cX11_abs 4 = .ok (.iload_n 0, 1) := by decide +kernel
theorem dX11_abs_5 : decode cX11_abs 5 = .ok (.ineg, 1) := by decide +kernel
theorem dX11_abs_6 : decode cX11_abs 6 = .ok (.goto 4, 3) := by decide +kernel
theorem dX11_abs_9 : decode cX11_abs 9 = .ok (.iload_n 0, 1) := by decide +kernel
theorem dX11_abs_10 : decode cX11_abs 10 = .ok (.ireturn, 1) := by decide +kernel
theorem dX11_downBy_0 : decode cX11_downBy 0 = .ok (.iload_n 0, 1) := by decide +kernel
theorem dX11_downBy_1 : decode cX11_downBy 1 = .ok (.ifCond .ge 15, 3) := by decide +kernel
theorem dX11_downBy_4 : decode cX11_downBy 4 = .ok (.iload_n 0, 1) := by decide +kernel
theorem dX11_downBy_5 : decode cX11_downBy 5 = .ok (.ineg, 1) := by decide +kernel
theorem dX11_downBy_6 : decode cX11_downBy 6 = .ok (.iload_n 1, 1) := by decide +kernel
theorem dX11_downBy_7 : decode cX11_downBy 7 = .ok (.iadd, 1) := by decide +kernel
theorem dX11_downBy_8 : decode cX11_downBy 8 = .ok (.iconst 1, 1) := by decide +kernel
theorem dX11_downBy_9 : decode cX11_downBy 9 = .ok (.isub, 1) := by decide +kernel
theorem dX11_downBy_10 : decode cX11_downBy 10 = .ok (.iload_n 1, 1) := by decide +kernel
theorem dX11_downBy_11 : decode cX11_downBy 11 = .ok (.idiv, 1) := by decide +kernel
theorem dX11_downBy_12 : decode cX11_downBy 12 = .ok (.ineg, 1) := by decide +kernel
theorem dX11_downBy_13 : decode cX11_downBy 13 = .ok (.goto 6, 3) := by decide +kernel
theorem dX11_downBy_16 : decode cX11_downBy 16 = .ok (.iload_n 0, 1) := by decide +kernel
theorem dX11_downBy_17 : decode cX11_downBy 17 = .ok (.iload_n 1, 1) := by decide +kernel
theorem dX11_downBy_18 : decode cX11_downBy 18 = .ok (.idiv, 1) := by decide +kernel
theorem dX11_downBy_19 : decode cX11_downBy 19 = .ok (.ireturn, 1) := by decide +kernel
theorem dX11_sees_0 : decode cX11_sees 0 = .ok (.iload_n 1, 1) := by decide +kernel
theorem dX11_sees_1 : decode cX11_sees 1 = .ok (.bipush 12, 2) := by decide +kernel
theorem dX11_sees_3 : decode cX11_sees 3 = .ok (.irem, 1) := by decide +kernel
theorem dX11_sees_4 : decode cX11_sees 4 = .ok (.istore_n 3, 1) := by decide +kernel
theorem dX11_sees_5 : decode cX11_sees 5 = .ok (.iload_n 1, 1) := by decide +kernel
theorem dX11_sees_6 : decode cX11_sees 6 = .ok (.bipush 12, 2) := by decide +kernel
theorem dX11_sees_8 : decode cX11_sees 8 = .ok (.idiv, 1) := by decide +kernel
theorem dX11_sees_9 : decode cX11_sees 9 = .ok (.istore 4, 2) := by decide +kernel
theorem dX11_sees_11 : decode cX11_sees 11 = .ok (.iload_n 2, 1) := by decide +kernel
theorem dX11_sees_12 : decode cX11_sees 12 = .ok (.bipush 12, 2) := by decide +kernel
theorem dX11_sees_14 : decode cX11_sees 14 = .ok (.irem, 1) := by decide +kernel
theorem dX11_sees_15 : decode cX11_sees 15 = .ok (.iload_n 3, 1) := by decide +kernel
theorem dX11_sees_16 : decode cX11_sees 16 = .ok (.isub, 1) := by decide +kernel
theorem dX11_sees_17 : decode cX11_sees 17 = .ok (.istore 5, 2) := by decide +kernel
theorem dX11_sees_19 : decode cX11_sees 19 = .ok (.iload_n 2, 1) := by decide +kernel
theorem dX11_sees_20 : decode cX11_sees 20 = .ok (.bipush 12, 2) := by decide +kernel
theorem dX11_sees_22 : decode cX11_sees 22 = .ok (.idiv, 1) := by decide +kernel
theorem dX11_sees_23 : decode cX11_sees 23 = .ok (.iload 4, 2) := by decide +kernel
theorem dX11_sees_25 : decode cX11_sees 25 = .ok (.isub, 1) := by decide +kernel
theorem dX11_sees_26 : decode cX11_sees 26 = .ok (.istore 6, 2) := by decide +kernel
theorem dX11_sees_28 : decode cX11_sees 28 = .ok (.iload 5, 2) := by decide +kernel
theorem dX11_sees_30 : decode cX11_sees 30 = .ok (.invokestatic 359, 3) := by decide +kernel
theorem dX11_sees_33 : decode cX11_sees 33 = .ok (.iload 6, 2) := by decide +kernel
theorem dX11_sees_35 : decode cX11_sees 35 = .ok (.invokestatic 359, 3) := by decide +kernel
theorem dX11_sees_38 : decode cX11_sees 38 = .ok (.if_icmp .lt 11, 3) := by decide +kernel
theorem dX11_sees_41 : decode cX11_sees 41 = .ok (.iload 5, 2) := by decide +kernel
theorem dX11_sees_43 : decode cX11_sees 43 = .ok (.invokestatic 359, 3) := by decide +kernel
theorem dX11_sees_46 : decode cX11_sees 46 = .ok (.goto 8, 3) := by decide +kernel
theorem dX11_sees_49 : decode cX11_sees 49 = .ok (.iload 6, 2) := by decide +kernel
theorem dX11_sees_51 : decode cX11_sees 51 = .ok (.invokestatic 359, 3) := by decide +kernel
theorem dX11_sees_54 : decode cX11_sees 54 = .ok (.istore 7, 2) := by decide +kernel
theorem dX11_sees_56 : decode cX11_sees 56 = .ok (.iconst 1, 1) := by decide +kernel
theorem dX11_sees_57 : decode cX11_sees 57 = .ok (.istore 8, 2) := by decide +kernel
theorem dX11_sees_59 : decode cX11_sees 59 = .ok (.iload 8, 2) := by decide +kernel
theorem dX11_sees_61 : decode cX11_sees 61 = .ok (.iload 7, 2) := by decide +kernel
theorem dX11_sees_63 : decode cX11_sees 63 = .ok (.if_icmp .ge 127, 3) := by decide +kernel
theorem dX11_sees_66 : decode cX11_sees 66 = .ok (.iload 7, 2) := by decide +kernel
theorem dX11_sees_68 : decode cX11_sees 68 = .ok (.iload 5, 2) := by decide +kernel
theorem dX11_sees_70 : decode cX11_sees 70 = .ok (.invokestatic 359, 3) := by decide +kernel
theorem dX11_sees_73 : decode cX11_sees 73 = .ok (.if_icmp .ne 21, 3) := by decide +kernel
theorem dX11_sees_76 : decode cX11_sees 76 = .ok (.iload_n 3, 1) := by decide +kernel
theorem dX11_sees_77 : decode cX11_sees 77 = .ok (.iload 5, 2) := by decide +kernel
theorem dX11_sees_79 : decode cX11_sees 79 = .ok (.ifCond .le 8, 3) := by decide +kernel
theorem dX11_sees_82 : decode cX11_sees 82 = .ok (.iload 8, 2) := by decide +kernel
theorem dX11_sees_84 : decode cX11_sees 84 = .ok (.goto 6, 3) := by decide +kernel
theorem dX11_sees_87 : decode cX11_sees 87 = .ok (.iload 8, 2) := by decide +kernel
theorem dX11_sees_89 : decode cX11_sees 89 = .ok (.ineg, 1) := by decide +kernel
theorem dX11_sees_90 : decode cX11_sees 90 = .ok (.iadd, 1) := by decide +kernel
theorem dX11_sees_91 : decode cX11_sees 91 = .ok (.goto 22, 3) := by decide +kernel
theorem dX11_sees_94 : decode cX11_sees 94 = .ok (.iload_n 3, 1) := by decide +kernel
theorem dX11_sees_95 : decode cX11_sees 95 = .ok (.iconst 2, 1) := by decide +kernel
theorem dX11_sees_96 : decode cX11_sees 96 = .ok (.iload 8, 2) := by decide +kernel
theorem dX11_sees_98 : decode cX11_sees 98 = .ok (.imul, 1) := by decide +kernel
theorem dX11_sees_99 : decode cX11_sees 99 = .ok (.iload 5, 2) := by decide +kernel
theorem dX11_sees_101 : decode cX11_sees 101 = .ok (.imul, 1) := by decide +kernel
theorem dX11_sees_102 : decode cX11_sees 102 = .ok (.iload 7, 2) := by decide +kernel
theorem dX11_sees_104 : decode cX11_sees 104 = .ok (.iadd, 1) := by decide +kernel
theorem dX11_sees_105 : decode cX11_sees 105 = .ok (.iconst 2, 1) := by decide +kernel
theorem dX11_sees_106 : decode cX11_sees 106 = .ok (.iload 7, 2) := by decide +kernel
theorem dX11_sees_108 : decode cX11_sees 108 = .ok (.imul, 1) := by decide +kernel
theorem dX11_sees_109 : decode cX11_sees 109 = .ok (.invokestatic 362, 3) := by decide +kernel
theorem dX11_sees_112 : decode cX11_sees 112 = .ok (.iadd, 1) := by decide +kernel
theorem dX11_sees_113 : decode cX11_sees 113 = .ok (.istore 9, 2) := by decide +kernel
theorem dX11_sees_115 : decode cX11_sees 115 = .ok (.iload 7, 2) := by decide +kernel
theorem dX11_sees_117 : decode cX11_sees 117 = .ok (.iload 5, 2) := by decide +kernel
theorem dX11_sees_119 : decode cX11_sees 119 = .ok (.invokestatic 359, 3) := by decide +kernel
theorem dX11_sees_122 : decode cX11_sees 122 = .ok (.if_icmp .ne 26, 3) := by decide +kernel
theorem dX11_sees_125 : decode cX11_sees 125 = .ok (.iload 4, 2) := by decide +kernel
theorem dX11_sees_127 : decode cX11_sees 127 = .ok (.iconst 2, 1) := by decide +kernel
theorem dX11_sees_128 : decode cX11_sees 128 = .ok (.iload 8, 2) := by decide +kernel
theorem dX11_sees_130 : decode cX11_sees 130 = .ok (.imul, 1) := by decide +kernel
theorem dX11_sees_131 : decode cX11_sees 131 = .ok (.iload 6, 2) := by decide +kernel
theorem dX11_sees_133 : decode cX11_sees 133 = .ok (.imul, 1) := by decide +kernel
theorem dX11_sees_134 : decode cX11_sees 134 = .ok (.iload 7, 2) := by decide +kernel
theorem dX11_sees_136 : decode cX11_sees 136 = .ok (.iadd, 1) := by decide +kernel
theorem dX11_sees_137 : decode cX11_sees 137 = .ok (.iconst 2, 1) := by decide +kernel
theorem dX11_sees_138 : decode cX11_sees 138 = .ok (.iload 7, 2) := by decide +kernel
theorem dX11_sees_140 : decode cX11_sees 140 = .ok (.imul, 1) := by decide +kernel
theorem dX11_sees_141 : decode cX11_sees 141 = .ok (.invokestatic 362, 3) := by decide +kernel
theorem dX11_sees_144 : decode cX11_sees 144 = .ok (.iadd, 1) := by decide +kernel
theorem dX11_sees_145 : decode cX11_sees 145 = .ok (.goto 19, 3) := by decide +kernel
theorem dX11_sees_148 : decode cX11_sees 148 = .ok (.iload 4, 2) := by decide +kernel
theorem dX11_sees_150 : decode cX11_sees 150 = .ok (.iload 6, 2) := by decide +kernel
theorem dX11_sees_152 : decode cX11_sees 152 = .ok (.ifCond .le 8, 3) := by decide +kernel
theorem dX11_sees_155 : decode cX11_sees 155 = .ok (.iload 8, 2) := by decide +kernel
theorem dX11_sees_157 : decode cX11_sees 157 = .ok (.goto 6, 3) := by decide +kernel
theorem dX11_sees_160 : decode cX11_sees 160 = .ok (.iload 8, 2) := by decide +kernel
theorem dX11_sees_162 : decode cX11_sees 162 = .ok (.ineg, 1) := by decide +kernel
theorem dX11_sees_163 : decode cX11_sees 163 = .ok (.iadd, 1) := by decide +kernel
theorem dX11_sees_164 : decode cX11_sees 164 = .ok (.istore 10, 2) := by decide +kernel
theorem dX11_sees_166 : decode cX11_sees 166 = .ok (.aload_n 0, 1) := by decide +kernel
theorem dX11_sees_167 : decode cX11_sees 167 = .ok (.getfield 9, 3) := by decide +kernel
theorem dX11_sees_170 : decode cX11_sees 170 = .ok (.iload 9, 2) := by decide +kernel
theorem dX11_sees_172 : decode cX11_sees 172 = .ok (.iload 10, 2) := by decide +kernel
theorem dX11_sees_174 : decode cX11_sees 174 = .ok (.invokestatic 108, 3) := by decide +kernel
theorem dX11_sees_177 : decode cX11_sees 177 = .ok (.iaload, 1) := by decide +kernel
theorem dX11_sees_178 : decode cX11_sees 178 = .ok (.iconst 1, 1) := by decide +kernel
theorem dX11_sees_179 : decode cX11_sees 179 = .ok (.if_icmp .ne 5, 3) := by decide +kernel
theorem dX11_sees_182 : decode cX11_sees 182 = .ok (.iconst 0, 1) := by decide +kernel
theorem dX11_sees_183 : decode cX11_sees 183 = .ok (.ireturn, 1) := by decide +kernel
theorem dX11_sees_184 : decode cX11_sees 184 = .ok (.iinc 8 1, 3) := by decide +kernel
theorem dX11_sees_187 : decode cX11_sees 187 = .ok (.goto (-128), 3) := by decide +kernel
theorem dX11_sees_190 : decode cX11_sees 190 = .ok (.iconst 1, 1) := by decide +kernel
theorem dX11_sees_191 : decode cX11_sees 191 = .ok (.ireturn, 1) := by decide +kernel
theorem dX11_seen_0 : decode cX11_seen 0 = .ok (.iload_n 1, 1) := by decide +kernel
theorem dX11_seen_1 : decode cX11_seen 1 = .ok (.iconst 0, 1) := by decide +kernel
theorem dX11_seen_2 : decode cX11_seen 2 = .ok (.sipush 143, 3) := by decide +kernel
theorem dX11_seen_5 : decode cX11_seen 5 = .ok (.invokestatic 100, 3) := by decide +kernel
theorem dX11_seen_8 : decode cX11_seen 8 = .ok (.ifCond .eq 14, 3) := by decide +kernel
theorem dX11_seen_11 : decode cX11_seen 11 = .ok (.iload_n 2, 1) := by decide +kernel
theorem dX11_seen_12 : decode cX11_seen 12 = .ok (.iconst (-1), 1) := by decide +kernel
theorem dX11_seen_13 : decode cX11_seen 13 = .ok (.sipush 143, 3) := by decide +kernel
theorem dX11_seen_16 : decode cX11_seen 16 = .ok (.invokestatic 100, 3) := by decide +kernel
theorem dX11_seen_19 : decode cX11_seen 19 = .ok (.ifCond .ne 5, 3) := by decide +kernel
theorem dX11_seen_22 : decode cX11_seen 22 = .ok (.iconst (-1), 1) := by decide +kernel
theorem dX11_seen_23 : decode cX11_seen 23 = .ok (.ireturn, 1) := by decide +kernel
theorem dX11_seen_24 : decode cX11_seen 24 = .ok (.iload_n 2, 1) := by decide +kernel
theorem dX11_seen_25 : decode cX11_seen 25 = .ok (.iconst (-1), 1) := by decide +kernel
theorem dX11_seen_26 : decode cX11_seen 26 = .ok (.if_icmp .eq 13, 3) := by decide +kernel
theorem dX11_seen_29 : decode cX11_seen 29 = .ok (.aload_n 0, 1) := by decide +kernel
theorem dX11_seen_30 : decode cX11_seen 30 = .ok (.iload_n 1, 1) := by decide +kernel
theorem dX11_seen_31 : decode cX11_seen 31 = .ok (.iload_n 2, 1) := by decide +kernel
theorem dX11_seen_32 : decode cX11_seen 32 = .ok (.invokevirtual 365, 3) := by decide +kernel
theorem dX11_seen_35 : decode cX11_seen 35 = .ok (.invokestatic 249, 3) := by decide +kernel
theorem dX11_seen_38 : decode cX11_seen 38 = .ok (.ireturn, 1) := by decide +kernel
theorem dX11_seen_39 : decode cX11_seen 39 = .ok (.iconst 0, 1) := by decide +kernel
theorem dX11_seen_40 : decode cX11_seen 40 = .ok (.istore_n 3, 1) := by decide +kernel
theorem dX11_seen_41 : decode cX11_seen 41 = .ok (.iconst 0, 1) := by decide +kernel
theorem dX11_seen_42 : decode cX11_seen 42 = .ok (.istore 4, 2) := by decide +kernel
theorem dX11_seen_44 : decode cX11_seen 44 = .ok (.iload 4, 2) := by decide +kernel
theorem dX11_seen_46 : decode cX11_seen 46 = .ok (.sipush 144, 3) := by decide +kernel
theorem dX11_seen_49 : decode cX11_seen 49 = .ok (.if_icmp .ge 22, 3) := by decide +kernel
theorem dX11_seen_52 : decode cX11_seen 52 = .ok (.iload_n 3, 1) := by decide +kernel
theorem dX11_seen_53 : decode cX11_seen 53 = .ok (.aload_n 0, 1) := by decide +kernel
theorem dX11_seen_54 : decode cX11_seen 54 = .ok (.iload_n 1, 1) := by decide +kernel
theorem dX11_seen_55 : decode cX11_seen 55 = .ok (.iload 4, 2) := by decide +kernel
theorem dX11_seen_57 : decode cX11_seen 57 = .ok (.invokevirtual 365, 3) := by decide +kernel
theorem dX11_seen_60 : decode cX11_seen 60 = .ok (.invokestatic 249, 3) := by decide +kernel
theorem dX11_seen_63 : decode cX11_seen 63 = .ok (.iadd, 1) := by decide +kernel
theorem dX11_seen_64 : decode cX11_seen 64 = .ok (.istore_n 3, 1) := by decide +kernel
theorem dX11_seen_65 : decode cX11_seen 65 = .ok (.iinc 4 1, 3) := by decide +kernel
theorem dX11_seen_68 : decode cX11_seen 68 = .ok (.goto (-24), 3) := by decide +kernel
theorem dX11_seen_71 : decode cX11_seen 71 = .ok (.iload_n 3, 1) := by decide +kernel
theorem dX11_seen_72 : decode cX11_seen 72 = .ok (.ireturn, 1) := by decide +kernel
theorem dX11_known_0 : decode cX11_known 0 = .ok (.iload_n 1, 1) := by decide +kernel
theorem dX11_known_1 : decode cX11_known 1 = .ok (.iconst 0, 1) := by decide +kernel
theorem dX11_known_2 : decode cX11_known 2 = .ok (.iconst 1, 1) := by decide +kernel
theorem dX11_known_3 : decode cX11_known 3 = .ok (.invokestatic 100, 3) := by decide +kernel
theorem dX11_known_6 : decode cX11_known 6 = .ok (.ifCond .eq 12, 3) := by decide +kernel
theorem dX11_known_9 : decode cX11_known 9 = .ok (.iload_n 2, 1) := by decide +kernel
theorem dX11_known_10 : decode cX11_known 10 = .ok (.iconst (-1), 1) := by decide +kernel
theorem dX11_known_11 : decode cX11_known 11 = .ok (.iconst 2, 1) := by decide +kernel
theorem dX11_known_12 : decode cX11_known 12 = .ok (.invokestatic 100, 3) := by decide +kernel
theorem dX11_known_15 : decode cX11_known 15 = .ok (.ifCond .ne 5, 3) := by decide +kernel
theorem dX11_known_18 : decode cX11_known 18 = .ok (.iconst (-1), 1) := by decide +kernel
theorem dX11_known_19 : decode cX11_known 19 = .ok (.ireturn, 1) := by decide +kernel
theorem dX11_known_20 : decode cX11_known 20 = .ok (.sipush 2357, 3) := by decide +kernel
theorem dX11_known_23 : decode cX11_known 23 = .ok (.bipush 13, 2) := by decide +kernel
theorem dX11_known_25 : decode cX11_known 25 = .ok (.iload_n 1, 1) := by decide +kernel
theorem dX11_known_26 : decode cX11_known 26 = .ok (.imul, 1) := by decide +kernel
theorem dX11_known_27 : decode cX11_known 27 = .ok (.iadd, 1) := by decide +kernel
theorem dX11_known_28 : decode cX11_known 28 = .ok (.istore_n 3, 1) := by decide +kernel
theorem dX11_known_29 : decode cX11_known 29 = .ok (.iload_n 2, 1) := by decide +kernel
theorem dX11_known_30 : decode cX11_known 30 = .ok (.iconst (-1), 1) := by decide +kernel
theorem dX11_known_31 : decode cX11_known 31 = .ok (.if_icmp .ne 12, 3) := by decide +kernel
theorem dX11_known_34 : decode cX11_known 34 = .ok (.aload_n 0, 1) := by decide +kernel
theorem dX11_known_35 : decode cX11_known 35 = .ok (.getfield 9, 3) := by decide +kernel
theorem dX11_known_38 : decode cX11_known 38 = .ok (.iload_n 3, 1) := by decide +kernel
theorem dX11_known_39 : decode cX11_known 39 = .ok (.iconst 0, 1) := by decide +kernel
theorem dX11_known_40 : decode cX11_known 40 = .ok (.iastore, 1) := by decide +kernel
theorem dX11_known_41 : decode cX11_known 41 = .ok (.iconst 0, 1) := by decide +kernel
theorem dX11_known_42 : decode cX11_known 42 = .ok (.ireturn, 1) := by decide +kernel
theorem dX11_known_43 : decode cX11_known 43 = .ok (.aload_n 0, 1) := by decide +kernel
theorem dX11_known_44 : decode cX11_known 44 = .ok (.getfield 9, 3) := by decide +kernel
theorem dX11_known_47 : decode cX11_known 47 = .ok (.iload_n 3, 1) := by decide +kernel
theorem dX11_known_48 : decode cX11_known 48 = .ok (.iaload, 1) := by decide +kernel
theorem dX11_known_49 : decode cX11_known 49 = .ok (.bipush 12, 2) := by decide +kernel
theorem dX11_known_51 : decode cX11_known 51 = .ok (.if_icmp .ne 5, 3) := by decide +kernel
theorem dX11_known_54 : decode cX11_known 54 = .ok (.iconst (-1), 1) := by decide +kernel
theorem dX11_known_55 : decode cX11_known 55 = .ok (.ireturn, 1) := by decide +kernel
theorem dX11_known_56 : decode cX11_known 56 = .ok (.aload_n 0, 1) := by decide +kernel
theorem dX11_known_57 : decode cX11_known 57 = .ok (.getfield 9, 3) := by decide +kernel
theorem dX11_known_60 : decode cX11_known 60 = .ok (.iload_n 3, 1) := by decide +kernel
theorem dX11_known_61 : decode cX11_known 61 = .ok (.dup2, 1) := by decide +kernel
theorem dX11_known_62 : decode cX11_known 62 = .ok (.iaload, 1) := by decide +kernel
theorem dX11_known_63 : decode cX11_known 63 = .ok (.iconst 1, 1) := by decide +kernel
theorem dX11_known_64 : decode cX11_known 64 = .ok (.iadd, 1) := by decide +kernel
theorem dX11_known_65 : decode cX11_known 65 = .ok (.iastore, 1) := by decide +kernel
theorem dX11_known_66 : decode cX11_known 66 = .ok (.aload_n 0, 1) := by decide +kernel
theorem dX11_known_67 : decode cX11_known 67 = .ok (.getfield 9, 3) := by decide +kernel
theorem dX11_known_70 : decode cX11_known 70 = .ok (.iload_n 3, 1) := by decide +kernel
theorem dX11_known_71 : decode cX11_known 71 = .ok (.aload_n 0, 1) := by decide +kernel
theorem dX11_known_72 : decode cX11_known 72 = .ok (.getfield 9, 3) := by decide +kernel
theorem dX11_known_75 : decode cX11_known 75 = .ok (.iload_n 3, 1) := by decide +kernel
theorem dX11_known_76 : decode cX11_known 76 = .ok (.iaload, 1) := by decide +kernel
theorem dX11_known_77 : decode cX11_known 77 = .ok (.iadd, 1) := by decide +kernel
theorem dX11_known_78 : decode cX11_known 78 = .ok (.iload_n 2, 1) := by decide +kernel
theorem dX11_known_79 : decode cX11_known 79 = .ok (.iastore, 1) := by decide +kernel
theorem dX11_known_80 : decode cX11_known 80 = .ok (.aload_n 0, 1) := by decide +kernel
theorem dX11_known_81 : decode cX11_known 81 = .ok (.getfield 9, 3) := by decide +kernel
theorem dX11_known_84 : decode cX11_known 84 = .ok (.iload_n 3, 1) := by decide +kernel
theorem dX11_known_85 : decode cX11_known 85 = .ok (.iaload, 1) := by decide +kernel
theorem dX11_known_86 : decode cX11_known 86 = .ok (.ireturn, 1) := by decide +kernel
theorem dX11_otherwise_0 : decode cX11_otherwise 0 = .ok (.aload_n 0, 1) := by decide +kernel
theorem dX11_otherwise_1 : decode cX11_otherwise 1 = .ok (.getfield 9, 3) := by decide +kernel
theorem dX11_otherwise_4 : decode cX11_otherwise 4 = .ok (.sipush 2357, 3) := by decide +kernel
theorem dX11_otherwise_7 : decode cX11_otherwise 7 = .ok (.iaload, 1) := by decide +kernel
theorem dX11_otherwise_8 : decode cX11_otherwise 8 = .ok (.istore_n 3, 1) := by decide +kernel
theorem dX11_otherwise_9 : decode cX11_otherwise 9 = .ok (.aload_n 0, 1) := by decide +kernel
theorem dX11_otherwise_10 : decode cX11_otherwise 10 = .ok (.getfield 9, 3) := by decide +kernel
theorem dX11_otherwise_13 : decode cX11_otherwise 13 = .ok (.sipush 2358, 3) := by decide +kernel
theorem dX11_otherwise_16 : decode cX11_otherwise 16 = .ok (.iload_n 1, 1) := by decide +kernel
theorem dX11_otherwise_17 : decode cX11_otherwise 17 = .ok (.iconst 2, 1) := by decide +kernel
theorem dX11_otherwise_18 : decode cX11_otherwise 18 = .ok (.idiv, 1) := by decide +kernel
theorem dX11_otherwise_19 : decode cX11_otherwise 19 = .ok (.iload_n 2, 1) := by decide +kernel
theorem dX11_otherwise_20 : decode cX11_otherwise 20 = .ok (.iadd, 1) := by decide +kernel
theorem dX11_otherwise_21 : decode cX11_otherwise 21 = .ok (.iload_n 3, 1) := by decide +kernel
theorem dX11_otherwise_22 : decode cX11_otherwise 22 = .ok (.irem, 1) := by decide +kernel
theorem dX11_otherwise_23 : decode cX11_otherwise 23 = .ok (.iadd, 1) := by decide +kernel
theorem dX11_otherwise_24 : decode cX11_otherwise 24 = .ok (.iaload, 1) := by decide +kernel
theorem dX11_otherwise_25 : decode cX11_otherwise 25 = .ok (.istore 4, 2) := by decide +kernel
theorem dX11_otherwise_27 : decode cX11_otherwise 27 = .ok (.iload_n 1, 1) := by decide +kernel
theorem dX11_otherwise_28 : decode cX11_otherwise 28 = .ok (.iconst 2, 1) := by decide +kernel
theorem dX11_otherwise_29 : decode cX11_otherwise 29 = .ok (.irem, 1) := by decide +kernel
theorem dX11_otherwise_30 : decode cX11_otherwise 30 = .ok (.iconst 1, 1) := by decide +kernel
theorem dX11_otherwise_31 : decode cX11_otherwise 31 = .ok (.if_icmp .ne 16, 3) := by decide +kernel
theorem dX11_otherwise_34 : decode cX11_otherwise 34 = .ok (.iload 4, 2) := by decide +kernel
theorem dX11_otherwise_36 : decode cX11_otherwise 36 = .ok (.iconst 2, 1) := by decide +kernel
theorem dX11_otherwise_37 : decode cX11_otherwise 37 = .ok (.if_icmp .ge 10, 3) := by decide +kernel
theorem dX11_otherwise_40 : decode cX11_otherwise 40 = .ok (.iconst 1, 1) := by decide +kernel
theorem dX11_otherwise_41 : decode cX11_otherwise 41 = .ok (.iload 4, 2) := by decide +kernel
theorem dX11_otherwise_43 : decode cX11_otherwise 43 = .ok (.isub, 1) := by decide +kernel
theorem dX11_otherwise_44 : decode cX11_otherwise 44 = .ok (.goto 5, 3) := by decide +kernel
theorem dX11_otherwise_47 : decode cX11_otherwise 47 = .ok (.iload 4, 2) := by decide +kernel
theorem dX11_otherwise_49 : decode cX11_otherwise 49 = .ok (.ireturn, 1) := by decide +kernel
theorem dX11_areAlike_0 : decode cX11_areAlike 0 = .ok (.iconst 0, 1) := by decide +kernel
theorem dX11_areAlike_1 : decode cX11_areAlike 1 = .ok (.istore_n 3, 1) := by decide +kernel
theorem dX11_areAlike_2 : decode cX11_areAlike 2 = .ok (.iload_n 3, 1) := by decide +kernel
theorem dX11_areAlike_3 : decode cX11_areAlike 3 = .ok (.aload_n 0, 1) := by decide +kernel
theorem dX11_areAlike_4 : decode cX11_areAlike 4 = .ok (.getfield 9, 3) := by decide +kernel
theorem dX11_areAlike_7 : decode cX11_areAlike 7 = .ok (.sipush 2357, 3) := by decide +kernel
theorem dX11_areAlike_10 : decode cX11_areAlike 10 = .ok (.iaload, 1) := by decide +kernel
theorem dX11_areAlike_11 : decode cX11_areAlike 11 = .ok (.if_icmp .ge 44, 3) := by decide +kernel
theorem dX11_areAlike_14 : decode cX11_areAlike 14 = .ok (.aload_n 0, 1) := by decide +kernel
theorem dX11_areAlike_15 : decode cX11_areAlike 15 = .ok (.iload_n 1, 1) := by decide +kernel
theorem dX11_areAlike_16 : decode cX11_areAlike 16 = .ok (.iload_n 3, 1) := by decide +kernel
theorem dX11_areAlike_17 : decode cX11_areAlike 17 = .ok (.invokevirtual 368, 3) := by decide +kernel
theorem dX11_areAlike_20 : decode cX11_areAlike 20 = .ok (.iload_n 2, 1) := by decide +kernel
theorem dX11_areAlike_21 : decode cX11_areAlike 21 = .ok (.iconst (-1), 1) := by decide +kernel
theorem dX11_areAlike_22 : decode cX11_areAlike 22 = .ok (.if_icmp .ne 16, 3) := by decide +kernel
theorem dX11_areAlike_25 : decode cX11_areAlike 25 = .ok (.aload_n 0, 1) := by decide +kernel
theorem dX11_areAlike_26 : decode cX11_areAlike 26 = .ok (.getfield 9, 3) := by decide +kernel
theorem dX11_areAlike_29 : decode cX11_areAlike 29 = .ok (.sipush 2371, 3) := by decide +kernel
theorem dX11_areAlike_32 : decode cX11_areAlike 32 = .ok (.iload_n 3, 1) := by decide +kernel
theorem dX11_areAlike_33 : decode cX11_areAlike 33 = .ok (.iadd, 1) := by decide +kernel
theorem dX11_areAlike_34 : decode cX11_areAlike 34 = .ok (.iaload, 1) := by decide +kernel
theorem dX11_areAlike_35 : decode cX11_areAlike 35 = .ok (.goto 9, 3) := by decide +kernel
theorem dX11_areAlike_38 : decode cX11_areAlike 38 = .ok (.aload_n 0, 1) := by decide +kernel
theorem dX11_areAlike_39 : decode cX11_areAlike 39 = .ok (.iload_n 2, 1) := by decide +kernel
theorem dX11_areAlike_40 : decode cX11_areAlike 40 = .ok (.iload_n 3, 1) := by decide +kernel
theorem dX11_areAlike_41 : decode cX11_areAlike 41 = .ok (.invokevirtual 368, 3) := by decide +kernel
theorem dX11_areAlike_44 : decode cX11_areAlike 44 = .ok (.if_icmp .eq 5, 3) := by decide +kernel
theorem dX11_areAlike_47 : decode cX11_areAlike 47 = .ok (.iconst 0, 1) := by decide +kernel
theorem dX11_areAlike_48 : decode cX11_areAlike 48 = .ok (.ireturn, 1) := by decide +kernel
theorem dX11_areAlike_49 : decode cX11_areAlike 49 = .ok (.iinc 3 1, 3) := by decide +kernel
theorem dX11_areAlike_52 : decode cX11_areAlike 52 = .ok (.goto (-50), 3) := by decide +kernel
theorem dX11_areAlike_55 : decode cX11_areAlike 55 = .ok (.iconst 1, 1) := by decide +kernel
theorem dX11_areAlike_56 : decode cX11_areAlike 56 = .ok (.ireturn, 1) := by decide +kernel
theorem dX11_one_0 : decode cX11_one 0 = .ok (.iload_n 1, 1) := by decide +kernel
theorem dX11_one_1 : decode cX11_one 1 = .ok (.iconst 0, 1) := by decide +kernel
theorem dX11_one_2 : decode cX11_one 2 = .ok (.iconst 1, 1) := by decide +kernel
theorem dX11_one_3 : decode cX11_one 3 = .ok (.invokestatic 100, 3) := by decide +kernel
theorem dX11_one_6 : decode cX11_one 6 = .ok (.ifCond .ne 5, 3) := by decide +kernel
theorem dX11_one_9 : decode cX11_one 9 = .ok (.iconst (-1), 1) := by decide +kernel
theorem dX11_one_10 : decode cX11_one 10 = .ok (.ireturn, 1) := by decide +kernel
theorem dX11_one_11 : decode cX11_one 11 = .ok (.aload_n 0, 1) := by decide +kernel
theorem dX11_one_12 : decode cX11_one 12 = .ok (.getfield 9, 3) := by decide +kernel
theorem dX11_one_15 : decode cX11_one 15 = .ok (.sipush 2357, 3) := by decide +kernel
theorem dX11_one_18 : decode cX11_one 18 = .ok (.iaload, 1) := by decide +kernel
theorem dX11_one_19 : decode cX11_one 19 = .ok (.istore_n 2, 1) := by decide +kernel
theorem dX11_one_20 : decode cX11_one 20 = .ok (.iload_n 1, 1) := by decide +kernel
theorem dX11_one_21 : decode cX11_one 21 = .ok (.ifCond .ne 53, 3) := by decide +kernel
theorem dX11_one_24 : decode cX11_one 24 = .ok (.iload_n 2, 1) := by decide +kernel
theorem dX11_one_25 : decode cX11_one 25 = .ok (.aload_n 0, 1) := by decide +kernel
theorem dX11_one_26 : decode cX11_one 26 = .ok (.getfield 9, 3) := by decide +kernel
theorem dX11_one_29 : decode cX11_one 29 = .ok (.sipush 2370, 3) := by decide +kernel
theorem dX11_one_32 : decode cX11_one 32 = .ok (.iaload, 1) := by decide +kernel
theorem dX11_one_33 : decode cX11_one 33 = .ok (.if_icmp .eq 5, 3) := by decide +kernel
theorem dX11_one_36 : decode cX11_one 36 = .ok (.iconst 0, 1) := by decide +kernel
theorem dX11_one_37 : decode cX11_one 37 = .ok (.ireturn, 1) := by decide +kernel
theorem dX11_one_38 : decode cX11_one 38 = .ok (.iconst 0, 1) := by decide +kernel
theorem dX11_one_39 : decode cX11_one 39 = .ok (.istore_n 3, 1) := by decide +kernel
theorem dX11_one_40 : decode cX11_one 40 = .ok (.iload_n 3, 1) := by decide +kernel
theorem dX11_one_41 : decode cX11_one 41 = .ok (.iconst 2, 1) := by decide +kernel
theorem dX11_one_42 : decode cX11_one 42 = .ok (.iload_n 2, 1) := by decide +kernel
theorem dX11_one_43 : decode cX11_one 43 = .ok (.imul, 1) := by decide +kernel
theorem dX11_one_44 : decode cX11_one 44 = .ok (.if_icmp .ge 20, 3) := by decide +kernel
theorem dX11_one_47 : decode cX11_one 47 = .ok (.aload_n 0, 1) := by decide +kernel
theorem dX11_one_48 : decode cX11_one 48 = .ok (.iload_n 3, 1) := by decide +kernel
theorem dX11_one_49 : decode cX11_one 49 = .ok (.iconst (-1), 1) := by decide +kernel
theorem dX11_one_50 : decode cX11_one 50 = .ok (.invokevirtual 371, 3) := by decide +kernel
theorem dX11_one_53 : decode cX11_one 53 = .ok (.ifCond .eq 5, 3) := by decide +kernel
theorem dX11_one_56 : decode cX11_one 56 = .ok (.iconst 1, 1) := by decide +kernel
theorem dX11_one_57 : decode cX11_one 57 = .ok (.ireturn, 1) := by decide +kernel
theorem dX11_one_58 : decode cX11_one 58 = .ok (.iinc 3 1, 3) := by decide +kernel
theorem dX11_one_61 : decode cX11_one 61 = .ok (.goto (-21), 3) := by decide +kernel
theorem dX11_one_64 : decode cX11_one 64 = .ok (.iload_n 2, 1) := by decide +kernel
theorem dX11_one_65 : decode cX11_one 65 = .ok (.ifCond .ne 7, 3) := by decide +kernel
theorem dX11_one_68 : decode cX11_one 68 = .ok (.iconst 1, 1) := by decide +kernel
theorem dX11_one_69 : decode cX11_one 69 = .ok (.goto 4, 3) := by decide +kernel
theorem dX11_one_72 : decode cX11_one 72 = .ok (.iconst 0, 1) := by decide +kernel
theorem dX11_one_73 : decode cX11_one 73 = .ok (.ireturn, 1) := by decide +kernel
theorem dX11_one_74 : decode cX11_one 74 = .ok (.iload_n 2, 1) := by decide +kernel
theorem dX11_one_75 : decode cX11_one 75 = .ok (.ifCond .ne 7, 3) := by decide +kernel
theorem dX11_one_78 : decode cX11_one 78 = .ok (.iconst 1, 1) := by decide +kernel
theorem dX11_one_79 : decode cX11_one 79 = .ok (.goto 4, 3) := by decide +kernel
theorem dX11_one_82 : decode cX11_one 82 = .ok (.iconst 0, 1) := by decide +kernel
theorem dX11_one_83 : decode cX11_one 83 = .ok (.istore_n 3, 1) := by decide +kernel
theorem dX11_one_84 : decode cX11_one 84 = .ok (.iconst 0, 1) := by decide +kernel
theorem dX11_one_85 : decode cX11_one 85 = .ok (.istore 4, 2) := by decide +kernel
theorem dX11_one_87 : decode cX11_one 87 = .ok (.iload 4, 2) := by decide +kernel
theorem dX11_one_89 : decode cX11_one 89 = .ok (.iconst 2, 1) := by decide +kernel
theorem dX11_one_90 : decode cX11_one 90 = .ok (.iload_n 2, 1) := by decide +kernel
theorem dX11_one_91 : decode cX11_one 91 = .ok (.imul, 1) := by decide +kernel
theorem dX11_one_92 : decode cX11_one 92 = .ok (.if_icmp .ge 64, 3) := by decide +kernel
theorem dX11_one_95 : decode cX11_one 95 = .ok (.iconst 1, 1) := by decide +kernel
theorem dX11_one_96 : decode cX11_one 96 = .ok (.istore 5, 2) := by decide +kernel
theorem dX11_one_98 : decode cX11_one 98 = .ok (.iconst 0, 1) := by decide +kernel
theorem dX11_one_99 : decode cX11_one 99 = .ok (.istore 6, 2) := by decide +kernel
theorem dX11_one_101 : decode cX11_one 101 = .ok (.iload 6, 2) := by decide +kernel
theorem dX11_one_103 : decode cX11_one 103 = .ok (.iload 4, 2) := by decide +kernel
theorem dX11_one_105 : decode cX11_one 105 = .ok (.if_icmp .ge 32, 3) := by decide +kernel
theorem dX11_one_108 : decode cX11_one 108 = .ok (.iload 5, 2) := by decide +kernel
theorem dX11_one_110 : decode cX11_one 110 = .ok (.ifCond .eq 18, 3) := by decide +kernel
theorem dX11_one_113 : decode cX11_one 113 = .ok (.aload_n 0, 1) := by decide +kernel
theorem dX11_one_114 : decode cX11_one 114 = .ok (.iload 4, 2) := by decide +kernel
theorem dX11_one_116 : decode cX11_one 116 = .ok (.iload 6, 2) := by decide +kernel
theorem dX11_one_118 : decode cX11_one 118 = .ok (.invokevirtual 371, 3) := by decide +kernel
theorem dX11_one_121 : decode cX11_one 121 = .ok (.ifCond .ne 7, 3) := by decide +kernel
theorem dX11_one_124 : decode cX11_one 124 = .ok (.iconst 1, 1) := by decide +kernel
theorem dX11_one_125 : decode cX11_one 125 = .ok (.goto 4, 3) := by decide +kernel
theorem dX11_one_128 : decode cX11_one 128 = .ok (.iconst 0, 1) := by decide +kernel
theorem dX11_one_129 : decode cX11_one 129 = .ok (.istore 5, 2) := by decide +kernel
theorem dX11_one_131 : decode cX11_one 131 = .ok (.iinc 6 1, 3) := by decide +kernel
theorem dX11_one_134 : decode cX11_one 134 = .ok (.goto (-33), 3) := by decide +kernel
theorem dX11_one_137 : decode cX11_one 137 = .ok (.iload_n 3, 1) := by decide +kernel
theorem dX11_one_138 : decode cX11_one 138 = .ok (.iload 5, 2) := by decide +kernel
theorem dX11_one_140 : decode cX11_one 140 = .ok (.ifCond .eq 7, 3) := by decide +kernel
theorem dX11_one_143 : decode cX11_one 143 = .ok (.iconst 1, 1) := by decide +kernel
theorem dX11_one_144 : decode cX11_one 144 = .ok (.goto 4, 3) := by decide +kernel
theorem dX11_one_147 : decode cX11_one 147 = .ok (.iconst 0, 1) := by decide +kernel
theorem dX11_one_148 : decode cX11_one 148 = .ok (.iadd, 1) := by decide +kernel
theorem dX11_one_149 : decode cX11_one 149 = .ok (.istore_n 3, 1) := by decide +kernel
theorem dX11_one_150 : decode cX11_one 150 = .ok (.iinc 4 1, 3) := by decide +kernel
theorem dX11_one_153 : decode cX11_one 153 = .ok (.goto (-66), 3) := by decide +kernel
theorem dX11_one_156 : decode cX11_one 156 = .ok (.iload_n 3, 1) := by decide +kernel
theorem dX11_one_157 : decode cX11_one 157 = .ok (.ireturn, 1) := by decide +kernel
theorem dX11_move_0 : decode cX11_move 0 = .ok (.iload_n 1, 1) := by decide +kernel
theorem dX11_move_1 : decode cX11_move 1 = .ok (.iconst (-1), 1) := by decide +kernel
theorem dX11_move_2 : decode cX11_move 2 = .ok (.iconst 2, 1) := by decide +kernel
theorem dX11_move_3 : decode cX11_move 3 = .ok (.invokestatic 100, 3) := by decide +kernel
theorem dX11_move_6 : decode cX11_move 6 = .ok (.ifCond .ne 5, 3) := by decide +kernel
theorem dX11_move_9 : decode cX11_move 9 = .ok (.iconst (-1), 1) := by decide +kernel
theorem dX11_move_10 : decode cX11_move 10 = .ok (.ireturn, 1) := by decide +kernel
theorem dX11_move_11 : decode cX11_move 11 = .ok (.iload_n 1, 1) := by decide +kernel
theorem dX11_move_12 : decode cX11_move 12 = .ok (.iconst (-1), 1) := by decide +kernel
theorem dX11_move_13 : decode cX11_move 13 = .ok (.if_icmp .ne 15, 3) := by decide +kernel
theorem dX11_move_16 : decode cX11_move 16 = .ok (.aload_n 0, 1) := by decide +kernel
theorem dX11_move_17 : decode cX11_move 17 = .ok (.getfield 9, 3) := by decide +kernel
theorem dX11_move_20 : decode cX11_move 20 = .ok (.sipush 2383, 3) := by decide +kernel
theorem dX11_move_23 : decode cX11_move 23 = .ok (.iconst 0, 1) := by decide +kernel
theorem dX11_move_24 : decode cX11_move 24 = .ok (.iastore, 1) := by decide +kernel
theorem dX11_move_25 : decode cX11_move 25 = .ok (.goto 36, 3) := by decide +kernel
theorem dX11_move_28 : decode cX11_move 28 = .ok (.aload_n 0, 1) := by decide +kernel
theorem dX11_move_29 : decode cX11_move 29 = .ok (.getfield 9, 3) := by decide +kernel
theorem dX11_move_32 : decode cX11_move 32 = .ok (.sipush 2383, 3) := by decide +kernel
theorem dX11_move_35 : decode cX11_move 35 = .ok (.iaload, 1) := by decide +kernel
theorem dX11_move_36 : decode cX11_move 36 = .ok (.bipush 24, 2) := by decide +kernel
theorem dX11_move_38 : decode cX11_move 38 = .ok (.if_icmp .ne 5, 3) := by decide +kernel
theorem dX11_move_41 : decode cX11_move 41 = .ok (.iconst (-1), 1) := by decide +kernel
theorem dX11_move_42 : decode cX11_move 42 = .ok (.ireturn, 1) := by decide +kernel
theorem dX11_move_43 : decode cX11_move 43 = .ok (.aload_n 0, 1) := by decide +kernel
theorem dX11_move_44 : decode cX11_move 44 = .ok (.getfield 9, 3) := by decide +kernel
theorem dX11_move_47 : decode cX11_move 47 = .ok (.sipush 2384, 3) := by decide +kernel
theorem dX11_move_50 : decode cX11_move 50 = .ok (.aload_n 0, 1) := by decide +kernel
theorem dX11_move_51 : decode cX11_move 51 = .ok (.getfield 9, 3) := by decide +kernel
theorem dX11_move_54 : decode cX11_move 54 = .ok (.sipush 2383, 3) := by decide +kernel
theorem dX11_move_57 : decode cX11_move 57 = .ok (.iaload, 1) := by decide +kernel
theorem dX11_move_58 : decode cX11_move 58 = .ok (.iadd, 1) := by decide +kernel
theorem dX11_move_59 : decode cX11_move 59 = .ok (.iload_n 1, 1) := by decide +kernel
theorem dX11_move_60 : decode cX11_move 60 = .ok (.iastore, 1) := by decide +kernel
theorem dX11_move_61 : decode cX11_move 61 = .ok (.aload_n 0, 1) := by decide +kernel
theorem dX11_move_62 : decode cX11_move 62 = .ok (.getfield 9, 3) := by decide +kernel
theorem dX11_move_65 : decode cX11_move 65 = .ok (.sipush 2383, 3) := by decide +kernel
theorem dX11_move_68 : decode cX11_move 68 = .ok (.dup2, 1) := by decide +kernel
theorem dX11_move_69 : decode cX11_move 69 = .ok (.iaload, 1) := by decide +kernel
theorem dX11_move_70 : decode cX11_move 70 = .ok (.iload_n 1, 1) := by decide +kernel
theorem dX11_move_71 : decode cX11_move 71 = .ok (.iconst (-1), 1) := by decide +kernel
theorem dX11_move_72 : decode cX11_move 72 = .ok (.if_icmp .ne 7, 3) := by decide +kernel
theorem dX11_move_75 : decode cX11_move 75 = .ok (.iconst 0, 1) := by decide +kernel
theorem dX11_move_76 : decode cX11_move 76 = .ok (.goto 4, 3) := by decide +kernel
theorem dX11_move_79 : decode cX11_move 79 = .ok (.iconst 1, 1) := by decide +kernel
theorem dX11_move_80 : decode cX11_move 80 = .ok (.iadd, 1) := by decide +kernel
theorem dX11_move_81 : decode cX11_move 81 = .ok (.iastore, 1) := by decide +kernel
theorem dX11_move_82 : decode cX11_move 82 = .ok (.aload_n 0, 1) := by decide +kernel
theorem dX11_move_83 : decode cX11_move 83 = .ok (.getfield 9, 3) := by decide +kernel
theorem dX11_move_86 : decode cX11_move 86 = .ok (.sipush 2383, 3) := by decide +kernel
theorem dX11_move_89 : decode cX11_move 89 = .ok (.iaload, 1) := by decide +kernel
theorem dX11_move_90 : decode cX11_move 90 = .ok (.ireturn, 1) := by decide +kernel
theorem dX11_goesRound_0 : decode cX11_goesRound 0 = .ok (.aload_n 0, 1) := by decide +kernel
theorem dX11_goesRound_1 : decode cX11_goesRound 1 = .ok (.iconst 1, 1) := by decide +kernel
theorem dX11_goesRound_2 : decode cX11_goesRound 2 = .ok (.putfield 374, 3) := by decide +kernel
theorem dX11_goesRound_5 : decode cX11_goesRound 5 = .ok (.aload_n 0, 1) := by decide +kernel
theorem dX11_goesRound_6 : decode cX11_goesRound 6 = .ok (.getfield 53, 3) := by decide +kernel
theorem dX11_goesRound_9 : decode cX11_goesRound 9 = .ok (.iconst 0, 1) := by decide +kernel
theorem dX11_goesRound_10 : decode cX11_goesRound 10 = .ok (.iconst 0, 1) := by decide +kernel
theorem dX11_goesRound_11 : decode cX11_goesRound 11 = .ok (.iastore, 1) := by decide +kernel
theorem dX11_goesRound_12 : decode cX11_goesRound 12 = .ok (.aload_n 0, 1) := by decide +kernel
theorem dX11_goesRound_13 : decode cX11_goesRound 13 = .ok (.getfield 56, 3) := by decide +kernel
theorem dX11_goesRound_16 : decode cX11_goesRound 16 = .ok (.iconst 0, 1) := by decide +kernel
theorem dX11_goesRound_17 : decode cX11_goesRound 17 = .ok (.iconst 0, 1) := by decide +kernel
theorem dX11_goesRound_18 : decode cX11_goesRound 18 = .ok (.iastore, 1) := by decide +kernel
theorem dX11_goesRound_19 : decode cX11_goesRound 19 = .ok (.aload_n 0, 1) := by decide +kernel
theorem dX11_goesRound_20 : decode cX11_goesRound 20 = .ok (.iconst 0, 1) := by decide +kernel
theorem dX11_goesRound_21 : decode cX11_goesRound 21 = .ok (.putfield 377, 3) := by decide +kernel
theorem dX11_goesRound_24 : decode cX11_goesRound 24 = .ok (.aload_n 0, 1) := by decide +kernel
theorem dX11_goesRound_25 : decode cX11_goesRound 25 = .ok (.iconst 0, 1) := by decide +kernel
theorem dX11_goesRound_26 : decode cX11_goesRound 26 = .ok (.putfield 380, 3) := by decide +kernel
theorem dX11_goesRound_29 : decode cX11_goesRound 29 = .ok (.iconst 0, 1) := by decide +kernel
theorem dX11_goesRound_30 : decode cX11_goesRound 30 = .ok (.istore_n 1, 1) := by decide +kernel
theorem dX11_goesRound_31 : decode cX11_goesRound 31 = .ok (.iload_n 1, 1) := by decide +kernel
theorem dX11_goesRound_32 : decode cX11_goesRound 32 = .ok (.aload_n 0, 1) := by decide +kernel
theorem dX11_goesRound_33 : decode cX11_goesRound 33 = .ok (.getfield 9, 3) := by decide +kernel
theorem dX11_goesRound_36 : decode cX11_goesRound 36 = .ok (.sipush 2383, 3) := by decide +kernel
theorem dX11_goesRound_39 : decode cX11_goesRound 39 = .ok (.iaload, 1) := by decide +kernel
theorem dX11_goesRound_40 : decode cX11_goesRound 40 = .ok (.if_icmp .ge 177, 3) := by decide +kernel
theorem dX11_goesRound_43 : decode cX11_goesRound 43 = .ok (.aload_n 0, 1) := by decide +kernel
theorem dX11_goesRound_44 : decode cX11_goesRound 44 = .ok (.getfield 9, 3) := by decide +kernel
theorem dX11_goesRound_47 : decode cX11_goesRound 47 = .ok (.sipush 2384, 3) := by decide +kernel
theorem dX11_goesRound_50 : decode cX11_goesRound 50 = .ok (.iload_n 1, 1) := by decide +kernel
theorem dX11_goesRound_51 : decode cX11_goesRound 51 = .ok (.iadd, 1) := by decide +kernel
theorem dX11_goesRound_52 : decode cX11_goesRound 52 = .ok (.iaload, 1) := by decide +kernel
theorem dX11_goesRound_53 : decode cX11_goesRound 53 = .ok (.istore_n 2, 1) := by decide +kernel
theorem dX11_goesRound_54 : decode cX11_goesRound 54 = .ok (.aload_n 0, 1) := by decide +kernel
theorem dX11_goesRound_55 : decode cX11_goesRound 55 = .ok (.dup, 1) := by decide +kernel
theorem dX11_goesRound_56 : decode cX11_goesRound 56 = .ok (.getfield 377, 3) := by decide +kernel
theorem dX11_goesRound_59 : decode cX11_goesRound 59 = .ok (.iload_n 2, 1) := by decide +kernel
theorem dX11_goesRound_60 : decode cX11_goesRound 60 = .ok (.iconst 2, 1) := by decide +kernel
theorem dX11_goesRound_61 : decode cX11_goesRound 61 = .ok (.if_icmp .ne 7, 3) := by decide +kernel
theorem dX11_goesRound_64 : decode cX11_goesRound 64 = .ok (.iconst 1, 1) := by decide +kernel
theorem dX11_goesRound_65 : decode cX11_goesRound 65 = .ok (.goto 13, 3) := by decide +kernel
theorem dX11_goesRound_68 : decode cX11_goesRound 68 = .ok (.iload_n 2, 1) := by decide +kernel
theorem dX11_goesRound_69 : decode cX11_goesRound 69 = .ok (.iconst 1, 1) := by decide +kernel
theorem dX11_goesRound_70 : decode cX11_goesRound 70 = .ok (.if_icmp .ne 7, 3) := by decide +kernel
theorem dX11_goesRound_73 : decode cX11_goesRound 73 = .ok (.iconst (-1), 1) := by decide +kernel
theorem dX11_goesRound_74 : decode cX11_goesRound 74 = .ok (.goto 4, 3) := by decide +kernel
theorem dX11_goesRound_77 : decode cX11_goesRound 77 = .ok (.iconst 0, 1) := by decide +kernel
theorem dX11_goesRound_78 : decode cX11_goesRound 78 = .ok (.iadd, 1) := by decide +kernel
theorem dX11_goesRound_79 : decode cX11_goesRound 79 = .ok (.putfield 377, 3) := by decide +kernel
theorem dX11_goesRound_82 : decode cX11_goesRound 82 = .ok (.iload_n 2, 1) := by decide +kernel
theorem dX11_goesRound_83 : decode cX11_goesRound 83 = .ok (.ifCond .eq 6, 3) := by decide +kernel
theorem dX11_goesRound_86 : decode cX11_goesRound 86 = .ok (.goto 125, 3) := by decide +kernel
theorem dX11_goesRound_89 : decode cX11_goesRound 89 = .ok (.aload_n 0, 1) := by decide +kernel
theorem dX11_goesRound_90 : decode cX11_goesRound 90 = .ok (.getfield 377, 3) := by decide +kernel
theorem dX11_goesRound_93 : decode cX11_goesRound 93 = .ok (.bipush 24, 2) := by decide +kernel
theorem dX11_goesRound_95 : decode cX11_goesRound 95 = .ok (.iadd, 1) := by decide +kernel
theorem dX11_goesRound_96 : decode cX11_goesRound 96 = .ok (.iconst 4, 1) := by decide +kernel
theorem dX11_goesRound_97 : decode cX11_goesRound 97 = .ok (.irem, 1) := by decide +kernel
theorem dX11_goesRound_98 : decode cX11_goesRound 98 = .ok (.istore_n 3, 1) := by decide +kernel
theorem dX11_goesRound_99 : decode cX11_goesRound 99 = .ok (.aload_n 0, 1) := by decide +kernel
theorem dX11_goesRound_100 : decode cX11_goesRound 100 = .ok (.getfield 53, 3) := by decide +kernel
theorem dX11_goesRound_103 : decode cX11_goesRound 103 = .ok (.aload_n 0, 1) := by decide +kernel
theorem dX11_goesRound_104 : decode cX11_goesRound 104 = .ok (.getfield 374, 3) := by decide +kernel
theorem dX11_goesRound_107 : decode cX11_goesRound 107 = .ok (.aload_n 0, 1) := by decide +kernel
theorem dX11_goesRound_108 : decode cX11_goesRound 108 = .ok (.getfield 53, 3) := by decide +kernel
theorem dX11_goesRound_111 : decode cX11_goesRound 111 = .ok (.aload_n 0, 1) := by decide +kernel
theorem dX11_goesRound_112 : decode cX11_goesRound 112 = .ok (.getfield 374, 3) := by decide +kernel
theorem dX11_goesRound_115 : decode cX11_goesRound 115 = .ok (.iconst 1, 1) := by decide +kernel
theorem dX11_goesRound_116 : decode cX11_goesRound 116 = .ok (.isub, 1) := by decide +kernel
theorem dX11_goesRound_117 : decode cX11_goesRound 117 = .ok (.iaload, 1) := by decide +kernel
theorem dX11_goesRound_118 : decode cX11_goesRound 118 = .ok (.iload_n 3, 1) := by decide +kernel
theorem dX11_goesRound_119 : decode cX11_goesRound 119 = .ok (.invokestatic 285, 3) := by decide +kernel
theorem dX11_goesRound_122 : decode cX11_goesRound 122 = .ok (.iadd, 1) := by decide +kernel
theorem dX11_goesRound_123 : decode cX11_goesRound 123 = .ok (.iastore, 1) := by decide +kernel
theorem dX11_goesRound_124 : decode cX11_goesRound 124 = .ok (.aload_n 0, 1) := by decide +kernel
theorem dX11_goesRound_125 : decode cX11_goesRound 125 = .ok (.getfield 56, 3) := by decide +kernel
theorem dX11_goesRound_128 : decode cX11_goesRound 128 = .ok (.aload_n 0, 1) := by decide +kernel
theorem dX11_goesRound_129 : decode cX11_goesRound 129 = .ok (.getfield 374, 3) := by decide +kernel
theorem dX11_goesRound_132 : decode cX11_goesRound 132 = .ok (.aload_n 0, 1) := by decide +kernel
theorem dX11_goesRound_133 : decode cX11_goesRound 133 = .ok (.getfield 56, 3) := by decide +kernel
theorem dX11_goesRound_136 : decode cX11_goesRound 136 = .ok (.aload_n 0, 1) := by decide +kernel
theorem dX11_goesRound_137 : decode cX11_goesRound 137 = .ok (.getfield 374, 3) := by decide +kernel
theorem dX11_goesRound_140 : decode cX11_goesRound 140 = .ok (.iconst 1, 1) := by decide +kernel
theorem dX11_goesRound_141 : decode cX11_goesRound 141 = .ok (.isub, 1) := by decide +kernel
theorem dX11_goesRound_142 : decode cX11_goesRound 142 = .ok (.iaload, 1) := by decide +kernel
theorem dX11_goesRound_143 : decode cX11_goesRound 143 = .ok (.iload_n 3, 1) := by decide +kernel
theorem dX11_goesRound_144 : decode cX11_goesRound 144 = .ok (.invokestatic 288, 3) := by decide +kernel
theorem dX11_goesRound_147 : decode cX11_goesRound 147 = .ok (.iadd, 1) := by decide +kernel
theorem dX11_goesRound_148 : decode cX11_goesRound 148 = .ok (.iastore, 1) := by decide +kernel
theorem dX11_goesRound_149 : decode cX11_goesRound 149 = .ok (.aload_n 0, 1) := by decide +kernel
theorem dX11_goesRound_150 : decode cX11_goesRound 150 = .ok (.dup, 1) := by decide +kernel
theorem dX11_goesRound_151 : decode cX11_goesRound 151 = .ok (.getfield 380, 3) := by decide +kernel
theorem dX11_goesRound_154 : decode cX11_goesRound 154 = .ok (.aload_n 0, 1) := by decide +kernel
theorem dX11_goesRound_155 : decode cX11_goesRound 155 = .ok (.getfield 53, 3) := by decide +kernel
theorem dX11_goesRound_158 : decode cX11_goesRound 158 = .ok (.aload_n 0, 1) := by decide +kernel
theorem dX11_goesRound_159 : decode cX11_goesRound 159 = .ok (.getfield 374, 3) := by decide +kernel
theorem dX11_goesRound_162 : decode cX11_goesRound 162 = .ok (.iconst 1, 1) := by decide +kernel
theorem dX11_goesRound_163 : decode cX11_goesRound 163 = .ok (.isub, 1) := by decide +kernel
theorem dX11_goesRound_164 : decode cX11_goesRound 164 = .ok (.iaload, 1) := by decide +kernel
theorem dX11_goesRound_165 : decode cX11_goesRound 165 = .ok (.aload_n 0, 1) := by decide +kernel
theorem dX11_goesRound_166 : decode cX11_goesRound 166 = .ok (.getfield 56, 3) := by decide +kernel
theorem dX11_goesRound_169 : decode cX11_goesRound 169 = .ok (.aload_n 0, 1) := by decide +kernel
theorem dX11_goesRound_170 : decode cX11_goesRound 170 = .ok (.getfield 374, 3) := by decide +kernel
theorem dX11_goesRound_173 : decode cX11_goesRound 173 = .ok (.iaload, 1) := by decide +kernel
theorem dX11_goesRound_174 : decode cX11_goesRound 174 = .ok (.imul, 1) := by decide +kernel
theorem dX11_goesRound_175 : decode cX11_goesRound 175 = .ok (.aload_n 0, 1) := by decide +kernel
theorem dX11_goesRound_176 : decode cX11_goesRound 176 = .ok (.getfield 53, 3) := by decide +kernel
theorem dX11_goesRound_179 : decode cX11_goesRound 179 = .ok (.aload_n 0, 1) := by decide +kernel
theorem dX11_goesRound_180 : decode cX11_goesRound 180 = .ok (.getfield 374, 3) := by decide +kernel
theorem dX11_goesRound_183 : decode cX11_goesRound 183 = .ok (.iaload, 1) := by decide +kernel
theorem dX11_goesRound_184 : decode cX11_goesRound 184 = .ok (.aload_n 0, 1) := by decide +kernel
theorem dX11_goesRound_185 : decode cX11_goesRound 185 = .ok (.getfield 56, 3) := by decide +kernel
theorem dX11_goesRound_188 : decode cX11_goesRound 188 = .ok (.aload_n 0, 1) := by decide +kernel
theorem dX11_goesRound_189 : decode cX11_goesRound 189 = .ok (.getfield 374, 3) := by decide +kernel
theorem dX11_goesRound_192 : decode cX11_goesRound 192 = .ok (.iconst 1, 1) := by decide +kernel
theorem dX11_goesRound_193 : decode cX11_goesRound 193 = .ok (.isub, 1) := by decide +kernel
theorem dX11_goesRound_194 : decode cX11_goesRound 194 = .ok (.iaload, 1) := by decide +kernel
theorem dX11_goesRound_195 : decode cX11_goesRound 195 = .ok (.imul, 1) := by decide +kernel
theorem dX11_goesRound_196 : decode cX11_goesRound 196 = .ok (.isub, 1) := by decide +kernel
theorem dX11_goesRound_197 : decode cX11_goesRound 197 = .ok (.iadd, 1) := by decide +kernel
theorem dX11_goesRound_198 : decode cX11_goesRound 198 = .ok (.putfield 380, 3) := by decide +kernel
theorem dX11_goesRound_201 : decode cX11_goesRound 201 = .ok (.aload_n 0, 1) := by decide +kernel
theorem dX11_goesRound_202 : decode cX11_goesRound 202 = .ok (.dup, 1) := by decide +kernel
theorem dX11_goesRound_203 : decode cX11_goesRound 203 = .ok (.getfield 374, 3) := by decide +kernel
theorem dX11_goesRound_206 : decode cX11_goesRound 206 = .ok (.iconst 1, 1) := by decide +kernel
theorem dX11_goesRound_207 : decode cX11_goesRound 207 = .ok (.iadd, 1) := by decide +kernel
theorem dX11_goesRound_208 : decode cX11_goesRound 208 = .ok (.putfield 374, 3) := by decide +kernel
theorem dX11_goesRound_211 : decode cX11_goesRound 211 = .ok (.iinc 1 1, 3) := by decide +kernel
theorem dX11_goesRound_214 : decode cX11_goesRound 214 = .ok (.goto (-183), 3) := by decide +kernel
theorem dX11_goesRound_217 : decode cX11_goesRound 217 = .ok (.return_, 1) := by decide +kernel
theorem dX11_again_0 : decode cX11_again 0 = .ok (.iconst 0, 1) := by decide +kernel
theorem dX11_again_1 : decode cX11_again 1 = .ok (.istore_n 1, 1) := by decide +kernel
theorem dX11_again_2 : decode cX11_again 2 = .ok (.iconst 0, 1) := by decide +kernel
theorem dX11_again_3 : decode cX11_again 3 = .ok (.istore_n 2, 1) := by decide +kernel
theorem dX11_again_4 : decode cX11_again 4 = .ok (.iload_n 2, 1) := by decide +kernel
theorem dX11_again_5 : decode cX11_again 5 = .ok (.aload_n 0, 1) := by decide +kernel
theorem dX11_again_6 : decode cX11_again 6 = .ok (.getfield 374, 3) := by decide +kernel
theorem dX11_again_9 : decode cX11_again 9 = .ok (.if_icmp .ge 79, 3) := by decide +kernel
theorem dX11_again_12 : decode cX11_again 12 = .ok (.iconst 0, 1) := by decide +kernel
theorem dX11_again_13 : decode cX11_again 13 = .ok (.istore_n 3, 1) := by decide +kernel
theorem dX11_again_14 : decode cX11_again 14 = .ok (.iconst 0, 1) := by decide +kernel
theorem dX11_again_15 : decode cX11_again 15 = .ok (.istore 4, 2) := by decide +kernel
theorem dX11_again_17 : decode cX11_again 17 = .ok (.iload 4, 2) := by decide +kernel
theorem dX11_again_19 : decode cX11_again 19 = .ok (.iload_n 2, 1) := by decide +kernel
theorem dX11_again_20 : decode cX11_again 20 = .ok (.if_icmp .ge 49, 3) := by decide +kernel
theorem dX11_again_23 : decode cX11_again 23 = .ok (.iload_n 3, 1) := by decide +kernel
theorem dX11_again_24 : decode cX11_again 24 = .ok (.aload_n 0, 1) := by decide +kernel
theorem dX11_again_25 : decode cX11_again 25 = .ok (.getfield 53, 3) := by decide +kernel
theorem dX11_again_28 : decode cX11_again 28 = .ok (.iload 4, 2) := by decide +kernel
theorem dX11_again_30 : decode cX11_again 30 = .ok (.iaload, 1) := by decide +kernel
theorem dX11_again_31 : decode cX11_again 31 = .ok (.aload_n 0, 1) := by decide +kernel
theorem dX11_again_32 : decode cX11_again 32 = .ok (.getfield 53, 3) := by decide +kernel
theorem dX11_again_35 : decode cX11_again 35 = .ok (.iload_n 2, 1) := by decide +kernel
theorem dX11_again_36 : decode cX11_again 36 = .ok (.iaload, 1) := by decide +kernel
theorem dX11_again_37 : decode cX11_again 37 = .ok (.if_icmp .ne 23, 3) := by decide +kernel
theorem dX11_again_40 : decode cX11_again 40 = .ok (.aload_n 0, 1) := by decide +kernel
theorem dX11_again_41 : decode cX11_again 41 = .ok (.getfield 56, 3) := by decide +kernel
theorem dX11_again_44 : decode cX11_again 44 = .ok (.iload 4, 2) := by decide +kernel
theorem dX11_again_46 : decode cX11_again 46 = .ok (.iaload, 1) := by decide +kernel
theorem dX11_again_47 : decode cX11_again 47 = .ok (.aload_n 0, 1) := by decide +kernel
theorem dX11_again_48 : decode cX11_again 48 = .ok (.getfield 56, 3) := by decide +kernel
theorem dX11_again_51 : decode cX11_again 51 = .ok (.iload_n 2, 1) := by decide +kernel
theorem dX11_again_52 : decode cX11_again 52 = .ok (.iaload, 1) := by decide +kernel
theorem dX11_again_53 : decode cX11_again 53 = .ok (.if_icmp .ne 7, 3) := by decide +kernel
theorem dX11_again_56 : decode cX11_again 56 = .ok (.iconst 1, 1) := by decide +kernel
theorem dX11_again_57 : decode cX11_again 57 = .ok (.goto 4, 3) := by decide +kernel
theorem dX11_again_60 : decode cX11_again 60 = .ok (.iconst 0, 1) := by decide +kernel
theorem dX11_again_61 : decode cX11_again 61 = .ok (.iadd, 1) := by decide +kernel
theorem dX11_again_62 : decode cX11_again 62 = .ok (.istore_n 3, 1) := by decide +kernel
theorem dX11_again_63 : decode cX11_again 63 = .ok (.iinc 4 1, 3) := by decide +kernel
theorem dX11_again_66 : decode cX11_again 66 = .ok (.goto (-49), 3) := by decide +kernel
theorem dX11_again_69 : decode cX11_again 69 = .ok (.iload_n 1, 1) := by decide +kernel
theorem dX11_again_70 : decode cX11_again 70 = .ok (.iload_n 3, 1) := by decide +kernel
theorem dX11_again_71 : decode cX11_again 71 = .ok (.iconst 1, 1) := by decide +kernel
theorem dX11_again_72 : decode cX11_again 72 = .ok (.if_icmp .ne 7, 3) := by decide +kernel
theorem dX11_again_75 : decode cX11_again 75 = .ok (.iconst 1, 1) := by decide +kernel
theorem dX11_again_76 : decode cX11_again 76 = .ok (.goto 4, 3) := by decide +kernel
theorem dX11_again_79 : decode cX11_again 79 = .ok (.iconst 0, 1) := by decide +kernel
theorem dX11_again_80 : decode cX11_again 80 = .ok (.iadd, 1) := by decide +kernel
theorem dX11_again_81 : decode cX11_again 81 = .ok (.istore_n 1, 1) := by decide +kernel
theorem dX11_again_82 : decode cX11_again 82 = .ok (.iinc 2 1, 3) := by decide +kernel
theorem dX11_again_85 : decode cX11_again 85 = .ok (.goto (-81), 3) := by decide +kernel
theorem dX11_again_88 : decode cX11_again 88 = .ok (.iload_n 1, 1) := by decide +kernel
theorem dX11_again_89 : decode cX11_again 89 = .ok (.ireturn, 1) := by decide +kernel
theorem dX11_round_0 : decode cX11_round 0 = .ok (.iload_n 1, 1) := by decide +kernel
theorem dX11_round_1 : decode cX11_round 1 = .ok (.iconst 0, 1) := by decide +kernel
theorem dX11_round_2 : decode cX11_round 2 = .ok (.iconst 3, 1) := by decide +kernel
theorem dX11_round_3 : decode cX11_round 3 = .ok (.invokestatic 100, 3) := by decide +kernel
theorem dX11_round_6 : decode cX11_round 6 = .ok (.ifCond .ne 6, 3) := by decide +kernel
theorem dX11_round_9 : decode cX11_round 9 = .ok (.bipush (-100), 2) := by decide +kernel
theorem dX11_round_11 : decode cX11_round 11 = .ok (.ireturn, 1) := by decide +kernel
theorem dX11_round_12 : decode cX11_round 12 = .ok (.aload_n 0, 1) := by decide +kernel
theorem dX11_round_13 : decode cX11_round 13 = .ok (.invokevirtual 383, 3) := by decide +kernel
theorem dX11_round_16 : decode cX11_round 16 = .ok (.aload_n 0, 1) := by decide +kernel
theorem dX11_round_17 : decode cX11_round 17 = .ok (.getfield 53, 3) := by decide +kernel
theorem dX11_round_20 : decode cX11_round 20 = .ok (.aload_n 0, 1) := by decide +kernel
theorem dX11_round_21 : decode cX11_round 21 = .ok (.getfield 374, 3) := by decide +kernel
theorem dX11_round_24 : decode cX11_round 24 = .ok (.iconst 1, 1) := by decide +kernel
theorem dX11_round_25 : decode cX11_round 25 = .ok (.isub, 1) := by decide +kernel
theorem dX11_round_26 : decode cX11_round 26 = .ok (.iaload, 1) := by decide +kernel
theorem dX11_round_27 : decode cX11_round 27 = .ok (.invokestatic 359, 3) := by decide +kernel
theorem dX11_round_30 : decode cX11_round 30 = .ok (.aload_n 0, 1) := by decide +kernel
theorem dX11_round_31 : decode cX11_round 31 = .ok (.getfield 56, 3) := by decide +kernel
theorem dX11_round_34 : decode cX11_round 34 = .ok (.aload_n 0, 1) := by decide +kernel
theorem dX11_round_35 : decode cX11_round 35 = .ok (.getfield 374, 3) := by decide +kernel
theorem dX11_round_38 : decode cX11_round 38 = .ok (.iconst 1, 1) := by decide +kernel
theorem dX11_round_39 : decode cX11_round 39 = .ok (.isub, 1) := by decide +kernel
theorem dX11_round_40 : decode cX11_round 40 = .ok (.iaload, 1) := by decide +kernel
theorem dX11_round_41 : decode cX11_round 41 = .ok (.invokestatic 359, 3) := by decide +kernel
theorem dX11_round_44 : decode cX11_round 44 = .ok (.iadd, 1) := by decide +kernel
theorem dX11_round_45 : decode cX11_round 45 = .ok (.istore_n 2, 1) := by decide +kernel
theorem dX11_round_46 : decode cX11_round 46 = .ok (.iload_n 1, 1) := by decide +kernel
theorem dX11_round_47 : decode cX11_round 47 = .ok (.ifCond .ne 10, 3) := by decide +kernel
theorem dX11_round_50 : decode cX11_round 50 = .ok (.aload_n 0, 1) := by decide +kernel
theorem dX11_round_51 : decode cX11_round 51 = .ok (.getfield 377, 3) := by decide +kernel
theorem dX11_round_54 : decode cX11_round 54 = .ok (.goto 39, 3) := by decide +kernel
theorem dX11_round_57 : decode cX11_round 57 = .ok (.iload_n 1, 1) := by decide +kernel
theorem dX11_round_58 : decode cX11_round 58 = .ok (.iconst 1, 1) := by decide +kernel
theorem dX11_round_59 : decode cX11_round 59 = .ok (.if_icmp .ne 7, 3) := by decide +kernel
theorem dX11_round_62 : decode cX11_round 62 = .ok (.iload_n 2, 1) := by decide +kernel
theorem dX11_round_63 : decode cX11_round 63 = .ok (.goto 30, 3) := by decide +kernel
theorem dX11_round_66 : decode cX11_round 66 = .ok (.iload_n 1, 1) := by decide +kernel
theorem dX11_round_67 : decode cX11_round 67 = .ok (.iconst 2, 1) := by decide +kernel
theorem dX11_round_68 : decode cX11_round 68 = .ok (.if_icmp .ne 10, 3) := by decide +kernel
theorem dX11_round_71 : decode cX11_round 71 = .ok (.aload_n 0, 1) := by decide +kernel
theorem dX11_round_72 : decode cX11_round 72 = .ok (.invokevirtual 386, 3) := by decide +kernel
theorem dX11_round_75 : decode cX11_round 75 = .ok (.goto 18, 3) := by decide +kernel
theorem dX11_round_78 : decode cX11_round 78 = .ok (.iload_n 2, 1) := by decide +kernel
theorem dX11_round_79 : decode cX11_round 79 = .ok (.ifCond .ne 13, 3) := by decide +kernel
theorem dX11_round_82 : decode cX11_round 82 = .ok (.aload_n 0, 1) := by decide +kernel
theorem dX11_round_83 : decode cX11_round 83 = .ok (.getfield 380, 3) := by decide +kernel
theorem dX11_round_86 : decode cX11_round 86 = .ok (.invokestatic 359, 3) := by decide +kernel
theorem dX11_round_89 : decode cX11_round 89 = .ok (.goto 4, 3) := by decide +kernel
theorem dX11_round_92 : decode cX11_round 92 = .ok (.iconst (-1), 1) := by decide +kernel
theorem dX11_round_93 : decode cX11_round 93 = .ok (.ireturn, 1) := by decide +kernel
theorem dX11_gap_0 : decode cX11_gap 0 = .ok (.iload_n 1, 1) := by decide +kernel
theorem dX11_gap_1 : decode cX11_gap 1 = .ok (.iconst (-1), 1) := by decide +kernel
theorem dX11_gap_2 : decode cX11_gap 2 = .ok (.if_icmp .ne 14, 3) := by decide +kernel
theorem dX11_gap_5 : decode cX11_gap 5 = .ok (.aload_n 0, 1) := by decide +kernel
theorem dX11_gap_6 : decode cX11_gap 6 = .ok (.getfield 9, 3) := by decide +kernel
theorem dX11_gap_9 : decode cX11_gap 9 = .ok (.sipush 2408, 3) := by decide +kernel
theorem dX11_gap_12 : decode cX11_gap 12 = .ok (.iconst 0, 1) := by decide +kernel
theorem dX11_gap_13 : decode cX11_gap 13 = .ok (.iastore, 1) := by decide +kernel
theorem dX11_gap_14 : decode cX11_gap 14 = .ok (.iconst 0, 1) := by decide +kernel
theorem dX11_gap_15 : decode cX11_gap 15 = .ok (.ireturn, 1) := by decide +kernel
theorem dX11_gap_16 : decode cX11_gap 16 = .ok (.iload_n 1, 1) := by decide +kernel
theorem dX11_gap_17 : decode cX11_gap 17 = .ok (.iconst 0, 1) := by decide +kernel
theorem dX11_gap_18 : decode cX11_gap 18 = .ok (.bipush 7, 2) := by decide +kernel
theorem dX11_gap_20 : decode cX11_gap 20 = .ok (.invokestatic 100, 3) := by decide +kernel
theorem dX11_gap_23 : decode cX11_gap 23 = .ok (.ifCond .eq 26, 3) := by decide +kernel
theorem dX11_gap_26 : decode cX11_gap 26 = .ok (.iload_n 2, 1) := by decide +kernel
theorem dX11_gap_27 : decode cX11_gap 27 = .ok (.iconst 0, 1) := by decide +kernel
theorem dX11_gap_28 : decode cX11_gap 28 = .ok (.bipush 30, 2) := by decide +kernel
theorem dX11_gap_30 : decode cX11_gap 30 = .ok (.invokestatic 100, 3) := by decide +kernel
theorem dX11_gap_33 : decode cX11_gap 33 = .ok (.ifCond .eq 16, 3) := by decide +kernel
theorem dX11_gap_36 : decode cX11_gap 36 = .ok (.aload_n 0, 1) := by decide +kernel
theorem dX11_gap_37 : decode cX11_gap 37 = .ok (.getfield 9, 3) := by decide +kernel
theorem dX11_gap_40 : decode cX11_gap 40 = .ok (.sipush 2408, 3) := by decide +kernel
theorem dX11_gap_43 : decode cX11_gap 43 = .ok (.iaload, 1) := by decide +kernel
theorem dX11_gap_44 : decode cX11_gap 44 = .ok (.bipush 8, 2) := by decide +kernel
theorem dX11_gap_46 : decode cX11_gap 46 = .ok (.if_icmp .ne 5, 3) := by decide +kernel
theorem dX11_gap_49 : decode cX11_gap 49 = .ok (.iconst (-1), 1) := by decide +kernel
theorem dX11_gap_50 : decode cX11_gap 50 = .ok (.ireturn, 1) := by decide +kernel
theorem dX11_gap_51 : decode cX11_gap 51 = .ok (.aload_n 0, 1) := by decide +kernel
theorem dX11_gap_52 : decode cX11_gap 52 = .ok (.getfield 9, 3) := by decide +kernel
theorem dX11_gap_55 : decode cX11_gap 55 = .ok (.sipush 2409, 3) := by decide +kernel
theorem dX11_gap_58 : decode cX11_gap 58 = .ok (.iconst 2, 1) := by decide +kernel
theorem dX11_gap_59 : decode cX11_gap 59 = .ok (.aload_n 0, 1) := by decide +kernel
theorem dX11_gap_60 : decode cX11_gap 60 = .ok (.getfield 9, 3) := by decide +kernel
theorem dX11_gap_63 : decode cX11_gap 63 = .ok (.sipush 2408, 3) := by decide +kernel
theorem dX11_gap_66 : decode cX11_gap 66 = .ok (.iaload, 1) := by decide +kernel
theorem dX11_gap_67 : decode cX11_gap 67 = .ok (.imul, 1) := by decide +kernel
theorem dX11_gap_68 : decode cX11_gap 68 = .ok (.iadd, 1) := by decide +kernel
theorem dX11_gap_69 : decode cX11_gap 69 = .ok (.iload_n 1, 1) := by decide +kernel
theorem dX11_gap_70 : decode cX11_gap 70 = .ok (.iastore, 1) := by decide +kernel
theorem dX11_gap_71 : decode cX11_gap 71 = .ok (.aload_n 0, 1) := by decide +kernel
theorem dX11_gap_72 : decode cX11_gap 72 = .ok (.getfield 9, 3) := by decide +kernel
theorem dX11_gap_75 : decode cX11_gap 75 = .ok (.sipush 2410, 3) := by decide +kernel
theorem dX11_gap_78 : decode cX11_gap 78 = .ok (.iconst 2, 1) := by decide +kernel
theorem dX11_gap_79 : decode cX11_gap 79 = .ok (.aload_n 0, 1) := by decide +kernel
theorem dX11_gap_80 : decode cX11_gap 80 = .ok (.getfield 9, 3) := by decide +kernel
theorem dX11_gap_83 : decode cX11_gap 83 = .ok (.sipush 2408, 3) := by decide +kernel
theorem dX11_gap_86 : decode cX11_gap 86 = .ok (.iaload, 1) := by decide +kernel
theorem dX11_gap_87 : decode cX11_gap 87 = .ok (.imul, 1) := by decide +kernel
theorem dX11_gap_88 : decode cX11_gap 88 = .ok (.iadd, 1) := by decide +kernel
theorem dX11_gap_89 : decode cX11_gap 89 = .ok (.iload_n 2, 1) := by decide +kernel
theorem dX11_gap_90 : decode cX11_gap 90 = .ok (.iastore, 1) := by decide +kernel
theorem dX11_gap_91 : decode cX11_gap 91 = .ok (.aload_n 0, 1) := by decide +kernel
theorem dX11_gap_92 : decode cX11_gap 92 = .ok (.getfield 9, 3) := by decide +kernel
theorem dX11_gap_95 : decode cX11_gap 95 = .ok (.sipush 2408, 3) := by decide +kernel
theorem dX11_gap_98 : decode cX11_gap 98 = .ok (.dup2, 1) := by decide +kernel
theorem dX11_gap_99 : decode cX11_gap 99 = .ok (.iaload, 1) := by decide +kernel
theorem dX11_gap_100 : decode cX11_gap 100 = .ok (.iconst 1, 1) := by decide +kernel
theorem dX11_gap_101 : decode cX11_gap 101 = .ok (.iadd, 1) := by decide +kernel
theorem dX11_gap_102 : decode cX11_gap 102 = .ok (.iastore, 1) := by decide +kernel
theorem dX11_gap_103 : decode cX11_gap 103 = .ok (.aload_n 0, 1) := by decide +kernel
theorem dX11_gap_104 : decode cX11_gap 104 = .ok (.getfield 9, 3) := by decide +kernel
theorem dX11_gap_107 : decode cX11_gap 107 = .ok (.sipush 2408, 3) := by decide +kernel
theorem dX11_gap_110 : decode cX11_gap 110 = .ok (.iaload, 1) := by decide +kernel
theorem dX11_gap_111 : decode cX11_gap 111 = .ok (.ireturn, 1) := by decide +kernel
theorem dX11_hedge_0 : decode cX11_hedge 0 = .ok (.iconst 0, 1) := by decide +kernel
theorem dX11_hedge_1 : decode cX11_hedge 1 = .ok (.istore_n 1, 1) := by decide +kernel
theorem dX11_hedge_2 : decode cX11_hedge 2 = .ok (.iload_n 1, 1) := by decide +kernel
theorem dX11_hedge_3 : decode cX11_hedge 3 = .ok (.bipush 31, 2) := by decide +kernel
theorem dX11_hedge_5 : decode cX11_hedge 5 = .ok (.if_icmp .ge 26, 3) := by decide +kernel
theorem dX11_hedge_8 : decode cX11_hedge 8 = .ok (.aload_n 0, 1) := by decide +kernel
theorem dX11_hedge_9 : decode cX11_hedge 9 = .ok (.getfield 59, 3) := by decide +kernel
theorem dX11_hedge_12 : decode cX11_hedge 12 = .ok (.iload_n 1, 1) := by decide +kernel
theorem dX11_hedge_13 : decode cX11_hedge 13 = .ok (.iload_n 1, 1) := by decide +kernel
theorem dX11_hedge_14 : decode cX11_hedge 14 = .ok (.ifCond .ne 7, 3) := by decide +kernel
theorem dX11_hedge_17 : decode cX11_hedge 17 = .ok (.iconst 0, 1) := by decide +kernel
theorem dX11_hedge_18 : decode cX11_hedge 18 = .ok (.goto 6, 3) := by decide +kernel
theorem dX11_hedge_21 : decode cX11_hedge 21 = .ok (.sipush 9999, 3) := by decide +kernel
theorem dX11_hedge_24 : decode cX11_hedge 24 = .ok (.iastore, 1) := by decide +kernel
theorem dX11_hedge_25 : decode cX11_hedge 25 = .ok (.iinc 1 1, 3) := by decide +kernel
theorem dX11_hedge_28 : decode cX11_hedge 28 = .ok (.goto (-26), 3) := by decide +kernel
theorem dX11_hedge_31 : decode cX11_hedge 31 = .ok (.iconst 0, 1) := by decide +kernel
theorem dX11_hedge_32 : decode cX11_hedge 32 = .ok (.istore_n 1, 1) := by decide +kernel
theorem dX11_hedge_33 : decode cX11_hedge 33 = .ok (.iload_n 1, 1) := by decide +kernel
theorem dX11_hedge_34 : decode cX11_hedge 34 = .ok (.bipush 8, 2) := by decide +kernel
theorem dX11_hedge_36 : decode cX11_hedge 36 = .ok (.if_icmp .ge 171, 3) := by decide +kernel
theorem dX11_hedge_39 : decode cX11_hedge 39 = .ok (.iconst 0, 1) := by decide +kernel
theorem dX11_hedge_40 : decode cX11_hedge 40 = .ok (.istore_n 2, 1) := by decide +kernel
theorem dX11_hedge_41 : decode cX11_hedge 41 = .ok (.iconst 0, 1) := by decide +kernel
theorem dX11_hedge_42 : decode cX11_hedge 42 = .ok (.istore_n 3, 1) := by decide +kernel
theorem dX11_hedge_43 : decode cX11_hedge 43 = .ok (.iload_n 3, 1) := by decide +kernel
theorem dX11_hedge_44 : decode cX11_hedge 44 = .ok (.bipush 31, 2) := by decide +kernel
theorem dX11_hedge_46 : decode cX11_hedge 46 = .ok (.if_icmp .ge 18, 3) := by decide +kernel
theorem dX11_hedge_49 : decode cX11_hedge 49 = .ok (.aload_n 0, 1) := by decide +kernel
theorem dX11_hedge_50 : decode cX11_hedge 50 = .ok (.getfield 62, 3) := by decide +kernel
theorem dX11_hedge_53 : decode cX11_hedge 53 = .ok (.iload_n 3, 1) := by decide +kernel
theorem dX11_hedge_54 : decode cX11_hedge 54 = .ok (.sipush 9999, 3) := by decide +kernel
theorem dX11_hedge_57 : decode cX11_hedge 57 = .ok (.iastore, 1) := by decide +kernel
theorem dX11_hedge_58 : decode cX11_hedge 58 = .ok (.iinc 3 1, 3) := by decide +kernel
theorem dX11_hedge_61 : decode cX11_hedge 61 = .ok (.goto (-18), 3) := by decide +kernel
theorem dX11_hedge_64 : decode cX11_hedge 64 = .ok (.iconst 0, 1) := by decide +kernel
theorem dX11_hedge_65 : decode cX11_hedge 65 = .ok (.istore_n 3, 1) := by decide +kernel
theorem dX11_hedge_66 : decode cX11_hedge 66 = .ok (.iload_n 3, 1) := by decide +kernel
theorem dX11_hedge_67 : decode cX11_hedge 67 = .ok (.aload_n 0, 1) := by decide +kernel
theorem dX11_hedge_68 : decode cX11_hedge 68 = .ok (.getfield 9, 3) := by decide +kernel
theorem dX11_hedge_71 : decode cX11_hedge 71 = .ok (.sipush 2408, 3) := by decide +kernel
theorem dX11_hedge_74 : decode cX11_hedge 74 = .ok (.iaload, 1) := by decide +kernel
theorem dX11_hedge_75 : decode cX11_hedge 75 = .ok (.if_icmp .ge 109, 3) := by decide +kernel
theorem dX11_hedge_78 : decode cX11_hedge 78 = .ok (.aload_n 0, 1) := by decide +kernel
theorem dX11_hedge_79 : decode cX11_hedge 79 = .ok (.getfield 9, 3) := by decide +kernel
theorem dX11_hedge_82 : decode cX11_hedge 82 = .ok (.sipush 2409, 3) := by decide +kernel
theorem dX11_hedge_85 : decode cX11_hedge 85 = .ok (.iconst 2, 1) := by decide +kernel
theorem dX11_hedge_86 : decode cX11_hedge 86 = .ok (.iload_n 3, 1) := by decide +kernel
theorem dX11_hedge_87 : decode cX11_hedge 87 = .ok (.imul, 1) := by decide +kernel
theorem dX11_hedge_88 : decode cX11_hedge 88 = .ok (.iadd, 1) := by decide +kernel
theorem dX11_hedge_89 : decode cX11_hedge 89 = .ok (.iaload, 1) := by decide +kernel
theorem dX11_hedge_90 : decode cX11_hedge 90 = .ok (.iload_n 1, 1) := by decide +kernel
theorem dX11_hedge_91 : decode cX11_hedge 91 = .ok (.if_icmp .eq 6, 3) := by decide +kernel
theorem dX11_hedge_94 : decode cX11_hedge 94 = .ok (.goto 84, 3) := by decide +kernel
theorem dX11_hedge_97 : decode cX11_hedge 97 = .ok (.iconst 1, 1) := by decide +kernel
theorem dX11_hedge_98 : decode cX11_hedge 98 = .ok (.istore_n 2, 1) := by decide +kernel
theorem dX11_hedge_99 : decode cX11_hedge 99 = .ok (.aload_n 0, 1) := by decide +kernel
theorem dX11_hedge_100 : decode cX11_hedge 100 = .ok (.getfield 9, 3) := by decide +kernel
theorem dX11_hedge_103 : decode cX11_hedge 103 = .ok (.sipush 2410, 3) := by decide +kernel
theorem dX11_hedge_106 : decode cX11_hedge 106 = .ok (.iconst 2, 1) := by decide +kernel
theorem dX11_hedge_107 : decode cX11_hedge 107 = .ok (.iload_n 3, 1) := by decide +kernel
theorem dX11_hedge_108 : decode cX11_hedge 108 = .ok (.imul, 1) := by decide +kernel
theorem dX11_hedge_109 : decode cX11_hedge 109 = .ok (.iadd, 1) := by decide +kernel
theorem dX11_hedge_110 : decode cX11_hedge 110 = .ok (.iaload, 1) := by decide +kernel
theorem dX11_hedge_111 : decode cX11_hedge 111 = .ok (.istore 4, 2) := by decide +kernel
theorem dX11_hedge_113 : decode cX11_hedge 113 = .ok (.iconst 0, 1) := by decide +kernel
theorem dX11_hedge_114 : decode cX11_hedge 114 = .ok (.istore 5, 2) := by decide +kernel
theorem dX11_hedge_116 : decode cX11_hedge 116 = .ok (.iload 5, 2) := by decide +kernel
theorem dX11_hedge_118 : decode cX11_hedge 118 = .ok (.bipush 31, 2) := by decide +kernel
theorem dX11_hedge_120 : decode cX11_hedge 120 = .ok (.if_icmp .ge 58, 3) := by decide +kernel
theorem dX11_hedge_123 : decode cX11_hedge 123 = .ok (.aload_n 0, 1) := by decide +kernel
theorem dX11_hedge_124 : decode cX11_hedge 124 = .ok (.getfield 59, 3) := by decide +kernel
theorem dX11_hedge_127 : decode cX11_hedge 127 = .ok (.iload 5, 2) := by decide +kernel
theorem dX11_hedge_129 : decode cX11_hedge 129 = .ok (.iaload, 1) := by decide +kernel
theorem dX11_hedge_130 : decode cX11_hedge 130 = .ok (.iload 4, 2) := by decide +kernel
theorem dX11_hedge_132 : decode cX11_hedge 132 = .ok (.iload 5, 2) := by decide +kernel
theorem dX11_hedge_134 : decode cX11_hedge 134 = .ok (.isub, 1) := by decide +kernel
theorem dX11_hedge_135 : decode cX11_hedge 135 = .ok (.invokestatic 359, 3) := by decide +kernel
theorem dX11_hedge_138 : decode cX11_hedge 138 = .ok (.iadd, 1) := by decide +kernel
theorem dX11_hedge_139 : decode cX11_hedge 139 = .ok (.istore 6, 2) := by decide +kernel
theorem dX11_hedge_141 : decode cX11_hedge 141 = .ok (.aload_n 0, 1) := by decide +kernel
theorem dX11_hedge_142 : decode cX11_hedge 142 = .ok (.getfield 62, 3) := by decide +kernel
theorem dX11_hedge_145 : decode cX11_hedge 145 = .ok (.iload 4, 2) := by decide +kernel
theorem dX11_hedge_147 : decode cX11_hedge 147 = .ok (.iload 6, 2) := by decide +kernel
theorem dX11_hedge_149 : decode cX11_hedge 149 = .ok (.aload_n 0, 1) := by decide +kernel
theorem dX11_hedge_150 : decode cX11_hedge 150 = .ok (.getfield 62, 3) := by decide +kernel
theorem dX11_hedge_153 : decode cX11_hedge 153 = .ok (.iload 4, 2) := by decide +kernel
theorem dX11_hedge_155 : decode cX11_hedge 155 = .ok (.iaload, 1) := by decide +kernel
theorem dX11_hedge_156 : decode cX11_hedge 156 = .ok (.if_icmp .ge 8, 3) := by decide +kernel
theorem dX11_hedge_159 : decode cX11_hedge 159 = .ok (.iload 6, 2) := by decide +kernel
theorem dX11_hedge_161 : decode cX11_hedge 161 = .ok (.goto 10, 3) := by decide +kernel
theorem dX11_hedge_164 : decode cX11_hedge 164 = .ok (.aload_n 0, 1) := by decide +kernel
theorem dX11_hedge_165 : decode cX11_hedge 165 = .ok (.getfield 62, 3) := by decide +kernel
theorem dX11_hedge_168 : decode cX11_hedge 168 = .ok (.iload 4, 2) := by decide +kernel
theorem dX11_hedge_170 : decode cX11_hedge 170 = .ok (.iaload, 1) := by decide +kernel
theorem dX11_hedge_171 : decode cX11_hedge 171 = .ok (.iastore, 1) := by decide +kernel
theorem dX11_hedge_172 : decode cX11_hedge 172 = .ok (.iinc 5 1, 3) := by decide +kernel
theorem dX11_hedge_175 : decode cX11_hedge 175 = .ok (.goto (-59), 3) := by decide +kernel
theorem dX11_hedge_178 : decode cX11_hedge 178 = .ok (.iinc 3 1, 3) := by decide +kernel
theorem dX11_hedge_181 : decode cX11_hedge 181 = .ok (.goto (-115), 3) := by decide +kernel
theorem dX11_hedge_184 : decode cX11_hedge 184 = .ok (.iload_n 2, 1) := by decide +kernel
theorem dX11_hedge_185 : decode cX11_hedge 185 = .ok (.ifCond .eq 16, 3) := by decide +kernel
theorem dX11_hedge_188 : decode cX11_hedge 188 = .ok (.aload_n 0, 1) := by decide +kernel
theorem dX11_hedge_189 : decode cX11_hedge 189 = .ok (.getfield 62, 3) := by decide +kernel
theorem dX11_hedge_192 : decode cX11_hedge 192 = .ok (.aload_n 0, 1) := by decide +kernel
theorem dX11_hedge_193 : decode cX11_hedge 193 = .ok (.getfield 59, 3) := by decide +kernel
theorem dX11_hedge_196 : decode cX11_hedge 196 = .ok (.bipush 31, 2) := by decide +kernel
theorem dX11_hedge_198 : decode cX11_hedge 198 = .ok (.invokestatic 86, 3) := by decide +kernel
theorem dX11_hedge_201 : decode cX11_hedge 201 = .ok (.iinc 1 1, 3) := by decide +kernel
theorem dX11_hedge_204 : decode cX11_hedge 204 = .ok (.goto (-171), 3) := by decide +kernel
theorem dX11_hedge_207 : decode cX11_hedge 207 = .ok (.sipush 9999, 3) := by decide +kernel
theorem dX11_hedge_210 : decode cX11_hedge 210 = .ok (.istore_n 1, 1) := by decide +kernel
theorem dX11_hedge_211 : decode cX11_hedge 211 = .ok (.iconst 0, 1) := by decide +kernel
theorem dX11_hedge_212 : decode cX11_hedge 212 = .ok (.istore_n 2, 1) := by decide +kernel
theorem dX11_hedge_213 : decode cX11_hedge 213 = .ok (.iload_n 2, 1) := by decide +kernel
theorem dX11_hedge_214 : decode cX11_hedge 214 = .ok (.bipush 31, 2) := by decide +kernel
theorem dX11_hedge_216 : decode cX11_hedge 216 = .ok (.if_icmp .ge 34, 3) := by decide +kernel
theorem dX11_hedge_219 : decode cX11_hedge 219 = .ok (.aload_n 0, 1) := by decide +kernel
theorem dX11_hedge_220 : decode cX11_hedge 220 = .ok (.getfield 59, 3) := by decide +kernel
theorem dX11_hedge_223 : decode cX11_hedge 223 = .ok (.iload_n 2, 1) := by decide +kernel
theorem dX11_hedge_224 : decode cX11_hedge 224 = .ok (.iaload, 1) := by decide +kernel
theorem dX11_hedge_225 : decode cX11_hedge 225 = .ok (.iload_n 2, 1) := by decide +kernel
theorem dX11_hedge_226 : decode cX11_hedge 226 = .ok (.iadd, 1) := by decide +kernel
theorem dX11_hedge_227 : decode cX11_hedge 227 = .ok (.iload_n 1, 1) := by decide +kernel
theorem dX11_hedge_228 : decode cX11_hedge 228 = .ok (.if_icmp .ge 14, 3) := by decide +kernel
theorem dX11_hedge_231 : decode cX11_hedge 231 = .ok (.aload_n 0, 1) := by decide +kernel
theorem dX11_hedge_232 : decode cX11_hedge 232 = .ok (.getfield 59, 3) := by decide +kernel
theorem dX11_hedge_235 : decode cX11_hedge 235 = .ok (.iload_n 2, 1) := by decide +kernel
theorem dX11_hedge_236 : decode cX11_hedge 236 = .ok (.iaload, 1) := by decide +kernel
theorem dX11_hedge_237 : decode cX11_hedge 237 = .ok (.iload_n 2, 1) := by decide +kernel
theorem dX11_hedge_238 : decode cX11_hedge 238 = .ok (.iadd, 1) := by decide +kernel
theorem dX11_hedge_239 : decode cX11_hedge 239 = .ok (.goto 4, 3) := by decide +kernel
theorem dX11_hedge_242 : decode cX11_hedge 242 = .ok (.iload_n 1, 1) := by decide +kernel
theorem dX11_hedge_243 : decode cX11_hedge 243 = .ok (.istore_n 1, 1) := by decide +kernel
theorem dX11_hedge_244 : decode cX11_hedge 244 = .ok (.iinc 2 1, 3) := by decide +kernel
theorem dX11_hedge_247 : decode cX11_hedge 247 = .ok (.goto (-34), 3) := by decide +kernel
theorem dX11_hedge_250 : decode cX11_hedge 250 = .ok (.iload_n 1, 1) := by decide +kernel
theorem dX11_hedge_251 : decode cX11_hedge 251 = .ok (.ireturn, 1) := by decide +kernel
theorem dX11_fold_0 : decode cX11_fold 0 = .ok (.iload_n 0, 1) := by decide +kernel
theorem dX11_fold_1 : decode cX11_fold 1 = .ok (.istore_n 1, 1) := by decide +kernel
theorem dX11_fold_2 : decode cX11_fold 2 = .ok (.iload_n 1, 1) := by decide +kernel
theorem dX11_fold_3 : decode cX11_fold 3 = .ok (.iconst 2, 1) := by decide +kernel
theorem dX11_fold_4 : decode cX11_fold 4 = .ok (.irem, 1) := by decide +kernel
theorem dX11_fold_5 : decode cX11_fold 5 = .ok (.ifCond .ne 10, 3) := by decide +kernel
theorem dX11_fold_8 : decode cX11_fold 8 = .ok (.iload_n 1, 1) := by decide +kernel
theorem dX11_fold_9 : decode cX11_fold 9 = .ok (.iconst 2, 1) := by decide +kernel
theorem dX11_fold_10 : decode cX11_fold 10 = .ok (.idiv, 1) := by decide +kernel
theorem dX11_fold_11 : decode cX11_fold 11 = .ok (.istore_n 1, 1) := by decide +kernel
theorem dX11_fold_12 : decode cX11_fold 12 = .ok (.goto (-10), 3) := by decide +kernel
theorem dX11_fold_15 : decode cX11_fold 15 = .ok (.iload_n 1, 1) := by decide +kernel
theorem dX11_fold_16 : decode cX11_fold 16 = .ok (.iconst 4, 1) := by decide +kernel
theorem dX11_fold_17 : decode cX11_fold 17 = .ok (.irem, 1) := by decide +kernel
theorem dX11_fold_18 : decode cX11_fold 18 = .ok (.iconst 1, 1) := by decide +kernel
theorem dX11_fold_19 : decode cX11_fold 19 = .ok (.if_icmp .ne 7, 3) := by decide +kernel
theorem dX11_fold_22 : decode cX11_fold 22 = .ok (.iconst 1, 1) := by decide +kernel
theorem dX11_fold_23 : decode cX11_fold 23 = .ok (.goto 4, 3) := by decide +kernel
theorem dX11_fold_26 : decode cX11_fold 26 = .ok (.iconst 0, 1) := by decide +kernel
theorem dX11_fold_27 : decode cX11_fold 27 = .ok (.ireturn, 1) := by decide +kernel
theorem dX11_folded_0 : decode cX11_folded 0 = .ok (.iload_n 1, 1) := by decide +kernel
theorem dX11_folded_1 : decode cX11_folded 1 = .ok (.iconst 1, 1) := by decide +kernel
theorem dX11_folded_2 : decode cX11_folded 2 = .ok (.bipush 15, 2) := by decide +kernel
theorem dX11_folded_4 : decode cX11_folded 4 = .ok (.invokestatic 100, 3) := by decide +kernel
theorem dX11_folded_7 : decode cX11_folded 7 = .ok (.ifCond .eq 29, 3) := by decide +kernel
theorem dX11_folded_10 : decode cX11_folded 10 = .ok (.iload_n 3, 1) := by decide +kernel
theorem dX11_folded_11 : decode cX11_folded 11 = .ok (.iconst 0, 1) := by decide +kernel
theorem dX11_folded_12 : decode cX11_folded 12 = .ok (.iconst 2, 1) := by decide +kernel
theorem dX11_folded_13 : decode cX11_folded 13 = .ok (.invokestatic 100, 3) := by decide +kernel
theorem dX11_folded_16 : decode cX11_folded 16 = .ok (.ifCond .eq 20, 3) := by decide +kernel
theorem dX11_folded_19 : decode cX11_folded 19 = .ok (.iload_n 3, 1) := by decide +kernel
theorem dX11_folded_20 : decode cX11_folded 20 = .ok (.ifCond .ne 20, 3) := by decide +kernel
theorem dX11_folded_23 : decode cX11_folded 23 = .ok (.iload_n 2, 1) := by decide +kernel
theorem dX11_folded_24 : decode cX11_folded 24 = .ok (.iconst 1, 1) := by decide +kernel
theorem dX11_folded_25 : decode cX11_folded 25 = .ok (.iconst 1, 1) := by decide +kernel
theorem dX11_folded_26 : decode cX11_folded 26 = .ok (.iload_n 1, 1) := by decide +kernel
theorem dX11_folded_27 : decode cX11_folded 27 = .ok (.ishl, 1) := by decide +kernel
theorem dX11_folded_28 : decode cX11_folded 28 = .ok (.iconst 1, 1) := by decide +kernel
theorem dX11_folded_29 : decode cX11_folded 29 = .ok (.isub, 1) := by decide +kernel
theorem dX11_folded_30 : decode cX11_folded 30 = .ok (.invokestatic 100, 3) := by decide +kernel
theorem dX11_folded_33 : decode cX11_folded 33 = .ok (.ifCond .ne 7, 3) := by decide +kernel
theorem dX11_folded_36 : decode cX11_folded 36 = .ok (.sipush (-1000), 3) := by decide +kernel
theorem dX11_folded_39 : decode cX11_folded 39 = .ok (.ireturn, 1) := by decide +kernel
theorem dX11_folded_40 : decode cX11_folded 40 = .ok (.iload_n 3, 1) := by decide +kernel
theorem dX11_folded_41 : decode cX11_folded 41 = .ok (.ifCond .ne 8, 3) := by decide +kernel
theorem dX11_folded_44 : decode cX11_folded 44 = .ok (.iload_n 2, 1) := by decide +kernel
theorem dX11_folded_45 : decode cX11_folded 45 = .ok (.invokestatic 389, 3) := by decide +kernel
theorem dX11_folded_48 : decode cX11_folded 48 = .ok (.ireturn, 1) := by decide +kernel
theorem dX11_folded_49 : decode cX11_folded 49 = .ok (.iconst 0, 1) := by decide +kernel
theorem dX11_folded_50 : decode cX11_folded 50 = .ok (.istore 4, 2) := by decide +kernel
theorem dX11_folded_52 : decode cX11_folded 52 = .ok (.iconst 1, 1) := by decide +kernel
theorem dX11_folded_53 : decode cX11_folded 53 = .ok (.istore 5, 2) := by decide +kernel
theorem dX11_folded_55 : decode cX11_folded 55 = .ok (.iconst 0, 1) := by decide +kernel
theorem dX11_folded_56 : decode cX11_folded 56 = .ok (.istore 6, 2) := by decide +kernel
theorem dX11_folded_58 : decode cX11_folded 58 = .ok (.iconst 1, 1) := by decide +kernel
theorem dX11_folded_59 : decode cX11_folded 59 = .ok (.istore 7, 2) := by decide +kernel
theorem dX11_folded_61 : decode cX11_folded 61 = .ok (.iload 7, 2) := by decide +kernel
theorem dX11_folded_63 : decode cX11_folded 63 = .ok (.iconst 1, 1) := by decide +kernel
theorem dX11_folded_64 : decode cX11_folded 64 = .ok (.iload_n 1, 1) := by decide +kernel
theorem dX11_folded_65 : decode cX11_folded 65 = .ok (.ishl, 1) := by decide +kernel
theorem dX11_folded_66 : decode cX11_folded 66 = .ok (.if_icmp .ge 41, 3) := by decide +kernel
theorem dX11_folded_69 : decode cX11_folded 69 = .ok (.iload 6, 2) := by decide +kernel
theorem dX11_folded_71 : decode cX11_folded 71 = .ok (.iload 7, 2) := by decide +kernel
theorem dX11_folded_73 : decode cX11_folded 73 = .ok (.invokestatic 389, 3) := by decide +kernel
theorem dX11_folded_76 : decode cX11_folded 76 = .ok (.invokestatic 263, 3) := by decide +kernel
theorem dX11_folded_79 : decode cX11_folded 79 = .ok (.istore 6, 2) := by decide +kernel
theorem dX11_folded_81 : decode cX11_folded 81 = .ok (.iload 4, 2) := by decide +kernel
theorem dX11_folded_83 : decode cX11_folded 83 = .ok (.iload 6, 2) := by decide +kernel
theorem dX11_folded_85 : decode cX11_folded 85 = .ok (.invokestatic 285, 3) := by decide +kernel
theorem dX11_folded_88 : decode cX11_folded 88 = .ok (.iadd, 1) := by decide +kernel
theorem dX11_folded_89 : decode cX11_folded 89 = .ok (.istore 4, 2) := by decide +kernel
theorem dX11_folded_91 : decode cX11_folded 91 = .ok (.iload 5, 2) := by decide +kernel
theorem dX11_folded_93 : decode cX11_folded 93 = .ok (.iload 6, 2) := by decide +kernel
theorem dX11_folded_95 : decode cX11_folded 95 = .ok (.invokestatic 288, 3) := by decide +kernel
theorem dX11_folded_98 : decode cX11_folded 98 = .ok (.iadd, 1) := by decide +kernel
theorem dX11_folded_99 : decode cX11_folded 99 = .ok (.istore 5, 2) := by decide +kernel
theorem dX11_folded_101 : decode cX11_folded 101 = .ok (.iinc 7 1, 3) := by decide +kernel
theorem dX11_folded_104 : decode cX11_folded 104 = .ok (.goto (-43), 3) := by decide +kernel
theorem dX11_folded_107 : decode cX11_folded 107 = .ok (.iload_n 3, 1) := by decide +kernel
theorem dX11_folded_108 : decode cX11_folded 108 = .ok (.iconst 1, 1) := by decide +kernel
theorem dX11_folded_109 : decode cX11_folded 109 = .ok (.if_icmp .ne 8, 3) := by decide +kernel
theorem dX11_folded_112 : decode cX11_folded 112 = .ok (.iload 4, 2) := by decide +kernel
theorem dX11_folded_114 : decode cX11_folded 114 = .ok (.goto 5, 3) := by decide +kernel
theorem dX11_folded_117 : decode cX11_folded 117 = .ok (.iload 5, 2) := by decide +kernel
theorem dX11_folded_119 : decode cX11_folded 119 = .ok (.ireturn, 1) := by decide +kernel
theorem dX11_duel_0 : decode cX11_duel 0 = .ok (.iload_n 1, 1) := by decide +kernel
theorem dX11_duel_1 : decode cX11_duel 1 = .ok (.iconst 1, 1) := by decide +kernel
theorem dX11_duel_2 : decode cX11_duel 2 = .ok (.bipush 55, 2) := by decide +kernel
theorem dX11_duel_4 : decode cX11_duel 4 = .ok (.invokestatic 100, 3) := by decide +kernel
theorem dX11_duel_7 : decode cX11_duel 7 = .ok (.ifCond .eq 33, 3) := by decide +kernel
theorem dX11_duel_10 : decode cX11_duel 10 = .ok (.iload_n 1, 1) := by decide +kernel
theorem dX11_duel_11 : decode cX11_duel 11 = .ok (.bipush 10, 2) := by decide +kernel
theorem dX11_duel_13 : decode cX11_duel 13 = .ok (.irem, 1) := by decide +kernel
theorem dX11_duel_14 : decode cX11_duel 14 = .ok (.iconst 5, 1) := by decide +kernel
theorem dX11_duel_15 : decode cX11_duel 15 = .ok (.if_icmp .gt 25, 3) := by decide +kernel
theorem dX11_duel_18 : decode cX11_duel 18 = .ok (.iload_n 2, 1) := by decide +kernel
theorem dX11_duel_19 : decode cX11_duel 19 = .ok (.bipush (-20), 2) := by decide +kernel
theorem dX11_duel_21 : decode cX11_duel 21 = .ok (.bipush 20, 2) := by decide +kernel
theorem dX11_duel_23 : decode cX11_duel 23 = .ok (.invokestatic 100, 3) := by decide +kernel
theorem dX11_duel_26 : decode cX11_duel 26 = .ok (.ifCond .eq 14, 3) := by decide +kernel
theorem dX11_duel_29 : decode cX11_duel 29 = .ok (.iload_n 3, 1) := by decide +kernel
theorem dX11_duel_30 : decode cX11_duel 30 = .ok (.bipush (-20), 2) := by decide +kernel
theorem dX11_duel_32 : decode cX11_duel 32 = .ok (.bipush 20, 2) := by decide +kernel
theorem dX11_duel_34 : decode cX11_duel 34 = .ok (.invokestatic 100, 3) := by decide +kernel
theorem dX11_duel_37 : decode cX11_duel 37 = .ok (.ifCond .ne 5, 3) := by decide +kernel
theorem dX11_duel_40 : decode cX11_duel 40 = .ok (.iconst (-1), 1) := by decide +kernel
theorem dX11_duel_41 : decode cX11_duel 41 = .ok (.ireturn, 1) := by decide +kernel
theorem dX11_duel_42 : decode cX11_duel 42 = .ok (.iload_n 1, 1) := by decide +kernel
theorem dX11_duel_43 : decode cX11_duel 43 = .ok (.bipush 10, 2) := by decide +kernel
theorem dX11_duel_45 : decode cX11_duel 45 = .ok (.idiv, 1) := by decide +kernel
theorem dX11_duel_46 : decode cX11_duel 46 = .ok (.istore 4, 2) := by decide +kernel
theorem dX11_duel_48 : decode cX11_duel 48 = .ok (.iload_n 1, 1) := by decide +kernel
theorem dX11_duel_49 : decode cX11_duel 49 = .ok (.bipush 10, 2) := by decide +kernel
theorem dX11_duel_51 : decode cX11_duel 51 = .ok (.irem, 1) := by decide +kernel
theorem dX11_duel_52 : decode cX11_duel 52 = .ok (.istore 5, 2) := by decide +kernel
theorem dX11_duel_54 : decode cX11_duel 54 = .ok (.bipush 121, 2) := by decide +kernel
theorem dX11_duel_56 : decode cX11_duel 56 = .ok (.bipush 60, 2) := by decide +kernel
theorem dX11_duel_58 : decode cX11_duel 58 = .ok (.iload_n 3, 1) := by decide +kernel
theorem dX11_duel_59 : decode cX11_duel 59 = .ok (.iadd, 1) := by decide +kernel
theorem dX11_duel_60 : decode cX11_duel 60 = .ok (.imul, 1) := by decide +kernel
theorem dX11_duel_61 : decode cX11_duel 61 = .ok (.bipush 60, 2) := by decide +kernel
theorem dX11_duel_63 : decode cX11_duel 63 = .ok (.iadd, 1) := by decide +kernel
theorem dX11_duel_64 : decode cX11_duel 64 = .ok (.iload_n 2, 1) := by decide +kernel
theorem dX11_duel_65 : decode cX11_duel 65 = .ok (.iadd, 1) := by decide +kernel
theorem dX11_duel_66 : decode cX11_duel 66 = .ok (.istore 6, 2) := by decide +kernel
theorem dX11_duel_68 : decode cX11_duel 68 = .ok (.iconst 0, 1) := by decide +kernel
theorem dX11_duel_69 : decode cX11_duel 69 = .ok (.istore 7, 2) := by decide +kernel
theorem dX11_duel_71 : decode cX11_duel 71 = .ok (.iload 7, 2) := by decide +kernel
theorem dX11_duel_73 : decode cX11_duel 73 = .ok (.sipush 14641, 3) := by decide +kernel
theorem dX11_duel_76 : decode cX11_duel 76 = .ok (.if_icmp .ge 19, 3) := by decide +kernel
theorem dX11_duel_79 : decode cX11_duel 79 = .ok (.aload_n 0, 1) := by decide +kernel
theorem dX11_duel_80 : decode cX11_duel 80 = .ok (.getfield 65, 3) := by decide +kernel
theorem dX11_duel_83 : decode cX11_duel 83 = .ok (.iload 7, 2) := by decide +kernel
theorem dX11_duel_85 : decode cX11_duel 85 = .ok (.sipush 9999, 3) := by decide +kernel
theorem dX11_duel_88 : decode cX11_duel 88 = .ok (.iastore, 1) := by decide +kernel
theorem dX11_duel_89 : decode cX11_duel 89 = .ok (.iinc 7 1, 3) := by decide +kernel
theorem dX11_duel_92 : decode cX11_duel 92 = .ok (.goto (-21), 3) := by decide +kernel
theorem dX11_duel_95 : decode cX11_duel 95 = .ok (.aload_n 0, 1) := by decide +kernel
theorem dX11_duel_96 : decode cX11_duel 96 = .ok (.getfield 65, 3) := by decide +kernel
theorem dX11_duel_99 : decode cX11_duel 99 = .ok (.sipush 7320, 3) := by decide +kernel
theorem dX11_duel_102 : decode cX11_duel 102 = .ok (.iconst 0, 1) := by decide +kernel
theorem dX11_duel_103 : decode cX11_duel 103 = .ok (.iastore, 1) := by decide +kernel
theorem dX11_duel_104 : decode cX11_duel 104 = .ok (.iconst 0, 1) := by decide +kernel
theorem dX11_duel_105 : decode cX11_duel 105 = .ok (.istore 7, 2) := by decide +kernel
theorem dX11_duel_107 : decode cX11_duel 107 = .ok (.iconst 0, 1) := by decide +kernel
theorem dX11_duel_108 : decode cX11_duel 108 = .ok (.istore 8, 2) := by decide +kernel
theorem dX11_duel_110 : decode cX11_duel 110 = .ok (.iload 8, 2) := by decide +kernel
theorem dX11_duel_112 : decode cX11_duel 112 = .ok (.bipush 12, 2) := by decide +kernel
theorem dX11_duel_114 : decode cX11_duel 114 = .ok (.if_icmp .ge 121, 3) := by decide +kernel
theorem dX11_duel_117 : decode cX11_duel 117 = .ok (.aload_n 0, 1) := by decide +kernel
theorem dX11_duel_118 : decode cX11_duel 118 = .ok (.getfield 65, 3) := by decide +kernel
theorem dX11_duel_121 : decode cX11_duel 121 = .ok (.iload 6, 2) := by decide +kernel
theorem dX11_duel_123 : decode cX11_duel 123 = .ok (.iaload, 1) := by decide +kernel
theorem dX11_duel_124 : decode cX11_duel 124 = .ok (.sipush 9999, 3) := by decide +kernel
theorem dX11_duel_127 : decode cX11_duel 127 = .ok (.if_icmp .ne 108, 3) := by decide +kernel
theorem dX11_duel_130 : decode cX11_duel 130 = .ok (.bipush 60, 2) := by decide +kernel
theorem dX11_duel_132 : decode cX11_duel 132 = .ok (.iload 7, 2) := by decide +kernel
theorem dX11_duel_134 : decode cX11_duel 134 = .ok (.isub, 1) := by decide +kernel
theorem dX11_duel_135 : decode cX11_duel 135 = .ok (.istore 9, 2) := by decide +kernel
theorem dX11_duel_137 : decode cX11_duel 137 = .ok (.iload 9, 2) := by decide +kernel
theorem dX11_duel_139 : decode cX11_duel 139 = .ok (.bipush 60, 2) := by decide +kernel
theorem dX11_duel_141 : decode cX11_duel 141 = .ok (.iload 7, 2) := by decide +kernel
theorem dX11_duel_143 : decode cX11_duel 143 = .ok (.iadd, 1) := by decide +kernel
theorem dX11_duel_144 : decode cX11_duel 144 = .ok (.if_icmp .gt 66, 3) := by decide +kernel
theorem dX11_duel_147 : decode cX11_duel 147 = .ok (.bipush 60, 2) := by decide +kernel
theorem dX11_duel_149 : decode cX11_duel 149 = .ok (.iload 7, 2) := by decide +kernel
theorem dX11_duel_151 : decode cX11_duel 151 = .ok (.isub, 1) := by decide +kernel
theorem dX11_duel_152 : decode cX11_duel 152 = .ok (.istore 10, 2) := by decide +kernel
theorem dX11_duel_154 : decode cX11_duel 154 = .ok (.iload 10, 2) := by decide +kernel
theorem dX11_duel_156 : decode cX11_duel 156 = .ok (.bipush 60, 2) := by decide +kernel
theorem dX11_duel_158 : decode cX11_duel 158 = .ok (.iload 7, 2) := by decide +kernel
theorem dX11_duel_160 : decode cX11_duel 160 = .ok (.iadd, 1) := by decide +kernel
theorem dX11_duel_161 : decode cX11_duel 161 = .ok (.if_icmp .gt 43, 3) := by decide +kernel
theorem dX11_duel_164 : decode cX11_duel 164 = .ok (.aload_n 0, 1) := by decide +kernel
theorem dX11_duel_165 : decode cX11_duel 165 = .ok (.getfield 65, 3) := by decide +kernel
theorem dX11_duel_168 : decode cX11_duel 168 = .ok (.bipush 121, 2) := by decide +kernel
theorem dX11_duel_170 : decode cX11_duel 170 = .ok (.iload 9, 2) := by decide +kernel
theorem dX11_duel_172 : decode cX11_duel 172 = .ok (.imul, 1) := by decide +kernel
theorem dX11_duel_173 : decode cX11_duel 173 = .ok (.iload 10, 2) := by decide +kernel
theorem dX11_duel_175 : decode cX11_duel 175 = .ok (.iadd, 1) := by decide +kernel
theorem dX11_duel_176 : decode cX11_duel 176 = .ok (.iaload, 1) := by decide +kernel
theorem dX11_duel_177 : decode cX11_duel 177 = .ok (.iload 8, 2) := by decide +kernel
theorem dX11_duel_179 : decode cX11_duel 179 = .ok (.if_icmp .ne 19, 3) := by decide +kernel
theorem dX11_duel_182 : decode cX11_duel 182 = .ok (.aload_n 0, 1) := by decide +kernel
theorem dX11_duel_183 : decode cX11_duel 183 = .ok (.iload 10, 2) := by decide +kernel
theorem dX11_duel_185 : decode cX11_duel 185 = .ok (.iload 9, 2) := by decide +kernel
theorem dX11_duel_187 : decode cX11_duel 187 = .ok (.iload 4, 2) := by decide +kernel
theorem dX11_duel_189 : decode cX11_duel 189 = .ok (.iload 5, 2) := by decide +kernel
theorem dX11_duel_191 : decode cX11_duel 191 = .ok (.iload 8, 2) := by decide +kernel
theorem dX11_duel_193 : decode cX11_duel 193 = .ok (.iconst 1, 1) := by decide +kernel
theorem dX11_duel_194 : decode cX11_duel 194 = .ok (.iadd, 1) := by decide +kernel
theorem dX11_duel_195 : decode cX11_duel 195 = .ok (.invokevirtual 392, 3) := by decide +kernel
theorem dX11_duel_198 : decode cX11_duel 198 = .ok (.iinc 10 1, 3) := by decide +kernel
theorem dX11_duel_201 : decode cX11_duel 201 = .ok (.goto (-47), 3) := by decide +kernel
theorem dX11_duel_204 : decode cX11_duel 204 = .ok (.iinc 9 1, 3) := by decide +kernel
theorem dX11_duel_207 : decode cX11_duel 207 = .ok (.goto (-70), 3) := by decide +kernel
theorem dX11_duel_210 : decode cX11_duel 210 = .ok (.iload 7, 2) := by decide +kernel
theorem dX11_duel_212 : decode cX11_duel 212 = .ok (.iload 4, 2) := by decide +kernel
theorem dX11_duel_214 : decode cX11_duel 214 = .ok (.iload 5, 2) := by decide +kernel
theorem dX11_duel_216 : decode cX11_duel 216 = .ok (.if_icmp .le 8, 3) := by decide +kernel
theorem dX11_duel_219 : decode cX11_duel 219 = .ok (.iload 4, 2) := by decide +kernel
theorem dX11_duel_221 : decode cX11_duel 221 = .ok (.goto 5, 3) := by decide +kernel
theorem dX11_duel_224 : decode cX11_duel 224 = .ok (.iload 5, 2) := by decide +kernel
theorem dX11_duel_226 : decode cX11_duel 226 = .ok (.iadd, 1) := by decide +kernel
theorem dX11_duel_227 : decode cX11_duel 227 = .ok (.istore 7, 2) := by decide +kernel
theorem dX11_duel_229 : decode cX11_duel 229 = .ok (.iinc 8 1, 3) := by decide +kernel
theorem dX11_duel_232 : decode cX11_duel 232 = .ok (.goto (-122), 3) := by decide +kernel
theorem dX11_duel_235 : decode cX11_duel 235 = .ok (.aload_n 0, 1) := by decide +kernel
theorem dX11_duel_236 : decode cX11_duel 236 = .ok (.getfield 65, 3) := by decide +kernel
theorem dX11_duel_239 : decode cX11_duel 239 = .ok (.iload 6, 2) := by decide +kernel
theorem dX11_duel_241 : decode cX11_duel 241 = .ok (.iaload, 1) := by decide +kernel
theorem dX11_duel_242 : decode cX11_duel 242 = .ok (.sipush 9999, 3) := by decide +kernel
theorem dX11_duel_245 : decode cX11_duel 245 = .ok (.if_icmp .ne 7, 3) := by decide +kernel
theorem dX11_duel_248 : decode cX11_duel 248 = .ok (.iconst (-1), 1) := by decide +kernel
theorem dX11_duel_249 : decode cX11_duel 249 = .ok (.goto 10, 3) := by decide +kernel
theorem dX11_duel_252 : decode cX11_duel 252 = .ok (.aload_n 0, 1) := by decide +kernel
theorem dX11_duel_253 : decode cX11_duel 253 = .ok (.getfield 65, 3) := by decide +kernel
theorem dX11_duel_256 : decode cX11_duel 256 = .ok (.iload 6, 2) := by decide +kernel
theorem dX11_duel_258 : decode cX11_duel 258 = .ok (.iaload, 1) := by decide +kernel
theorem dX11_duel_259 : decode cX11_duel 259 = .ok (.ireturn, 1) := by decide +kernel
theorem dX11_pacesFrom_0 : decode cX11_pacesFrom 0 = .ok (.iconst 0, 1) := by decide +kernel
theorem dX11_pacesFrom_1 : decode cX11_pacesFrom 1 = .ok (.istore 6, 2) := by decide +kernel
theorem dX11_pacesFrom_3 : decode cX11_pacesFrom 3 = .ok (.iload 6, 2) := by decide +kernel
theorem dX11_pacesFrom_5 : decode cX11_pacesFrom 5 = .ok (.bipush 8, 2) := by decide +kernel
theorem dX11_pacesFrom_7 : decode cX11_pacesFrom 7 = .ok (.if_icmp .ge 100, 3) := by decide +kernel
theorem dX11_pacesFrom_10 : decode cX11_pacesFrom 10 = .ok (.iload 6, 2) := by decide +kernel
theorem dX11_pacesFrom_12 : decode cX11_pacesFrom 12 = .ok (.iconst 4, 1) := by decide +kernel
theorem dX11_pacesFrom_13 : decode cX11_pacesFrom 13 = .ok (.if_icmp .ge 7, 3) := by decide +kernel
theorem dX11_pacesFrom_16 : decode cX11_pacesFrom 16 = .ok (.iload_n 3, 1) := by decide +kernel
theorem dX11_pacesFrom_17 : decode cX11_pacesFrom 17 = .ok (.goto 5, 3) := by decide +kernel
theorem dX11_pacesFrom_20 : decode cX11_pacesFrom 20 = .ok (.iload 4, 2) := by decide +kernel
theorem dX11_pacesFrom_22 : decode cX11_pacesFrom 22 = .ok (.istore 7, 2) := by decide +kernel
theorem dX11_pacesFrom_24 : decode cX11_pacesFrom 24 = .ok (.iload 6, 2) := by decide +kernel
theorem dX11_pacesFrom_26 : decode cX11_pacesFrom 26 = .ok (.iconst 4, 1) := by decide +kernel
theorem dX11_pacesFrom_27 : decode cX11_pacesFrom 27 = .ok (.if_icmp .ge 8, 3) := by decide +kernel
theorem dX11_pacesFrom_30 : decode cX11_pacesFrom 30 = .ok (.iload 4, 2) := by decide +kernel
theorem dX11_pacesFrom_32 : decode cX11_pacesFrom 32 = .ok (.goto 4, 3) := by decide +kernel
theorem dX11_pacesFrom_35 : decode cX11_pacesFrom 35 = .ok (.iload_n 3, 1) := by decide +kernel
theorem dX11_pacesFrom_36 : decode cX11_pacesFrom 36 = .ok (.istore 8, 2) := by decide +kernel
theorem dX11_pacesFrom_38 : decode cX11_pacesFrom 38 = .ok (.bipush 121, 2) := by decide +kernel
theorem dX11_pacesFrom_40 : decode cX11_pacesFrom 40 = .ok (.iload_n 2, 1) := by decide +kernel
theorem dX11_pacesFrom_41 : decode cX11_pacesFrom 41 = .ok (.iload 6, 2) := by decide +kernel
theorem dX11_pacesFrom_43 : decode cX11_pacesFrom 43 = .ok (.iconst 4, 1) := by decide +kernel
theorem dX11_pacesFrom_44 : decode cX11_pacesFrom 44 = .ok (.irem, 1) := by decide +kernel
theorem dX11_pacesFrom_45 : decode cX11_pacesFrom 45 = .ok (.iconst 2, 1) := by decide +kernel
theorem dX11_pacesFrom_46 : decode cX11_pacesFrom 46 = .ok (.if_icmp .ge 8, 3) := by decide +kernel
theorem dX11_pacesFrom_49 : decode cX11_pacesFrom 49 = .ok (.iload 8, 2) := by decide +kernel
theorem dX11_pacesFrom_51 : decode cX11_pacesFrom 51 = .ok (.goto 6, 3) := by decide +kernel
theorem dX11_pacesFrom_54 : decode cX11_pacesFrom 54 = .ok (.iload 8, 2) := by decide +kernel
theorem dX11_pacesFrom_56 : decode cX11_pacesFrom 56 = .ok (.ineg, 1) := by decide +kernel
theorem dX11_pacesFrom_57 : decode cX11_pacesFrom 57 = .ok (.iadd, 1) := by decide +kernel
theorem dX11_pacesFrom_58 : decode cX11_pacesFrom 58 = .ok (.imul, 1) := by decide +kernel
theorem dX11_pacesFrom_59 : decode cX11_pacesFrom 59 = .ok (.iload_n 1, 1) := by decide +kernel
theorem dX11_pacesFrom_60 : decode cX11_pacesFrom 60 = .ok (.iadd, 1) := by decide +kernel
theorem dX11_pacesFrom_61 : decode cX11_pacesFrom 61 = .ok (.iload 6, 2) := by decide +kernel
theorem dX11_pacesFrom_63 : decode cX11_pacesFrom 63 = .ok (.iconst 2, 1) := by decide +kernel
theorem dX11_pacesFrom_64 : decode cX11_pacesFrom 64 = .ok (.irem, 1) := by decide +kernel
theorem dX11_pacesFrom_65 : decode cX11_pacesFrom 65 = .ok (.ifCond .ne 8, 3) := by decide +kernel
theorem dX11_pacesFrom_68 : decode cX11_pacesFrom 68 = .ok (.iload 7, 2) := by decide +kernel
theorem dX11_pacesFrom_70 : decode cX11_pacesFrom 70 = .ok (.goto 6, 3) := by decide +kernel
theorem dX11_pacesFrom_73 : decode cX11_pacesFrom 73 = .ok (.iload 7, 2) := by decide +kernel
theorem dX11_pacesFrom_75 : decode cX11_pacesFrom 75 = .ok (.ineg, 1) := by decide +kernel
theorem dX11_pacesFrom_76 : decode cX11_pacesFrom 76 = .ok (.iadd, 1) := by decide +kernel
theorem dX11_pacesFrom_77 : decode cX11_pacesFrom 77 = .ok (.istore 9, 2) := by decide +kernel
theorem dX11_pacesFrom_79 : decode cX11_pacesFrom 79 = .ok (.aload_n 0, 1) := by decide +kernel
theorem dX11_pacesFrom_80 : decode cX11_pacesFrom 80 = .ok (.getfield 65, 3) := by decide +kernel
theorem dX11_pacesFrom_83 : decode cX11_pacesFrom 83 = .ok (.iload 9, 2) := by decide +kernel
theorem dX11_pacesFrom_85 : decode cX11_pacesFrom 85 = .ok (.iaload, 1) := by decide +kernel
theorem dX11_pacesFrom_86 : decode cX11_pacesFrom 86 = .ok (.sipush 9999, 3) := by decide +kernel
theorem dX11_pacesFrom_89 : decode cX11_pacesFrom 89 = .ok (.if_icmp .ne 12, 3) := by decide +kernel
theorem dX11_pacesFrom_92 : decode cX11_pacesFrom 92 = .ok (.aload_n 0, 1) := by decide +kernel
theorem dX11_pacesFrom_93 : decode cX11_pacesFrom 93 = .ok (.getfield 65, 3) := by decide +kernel
theorem dX11_pacesFrom_96 : decode cX11_pacesFrom 96 = .ok (.iload 9, 2) := by decide +kernel
theorem dX11_pacesFrom_98 : decode cX11_pacesFrom 98 = .ok (.iload 5, 2) := by decide +kernel
theorem dX11_pacesFrom_100 : decode cX11_pacesFrom 100 = .ok (.iastore, 1) := by decide +kernel
theorem dX11_pacesFrom_101 : decode cX11_pacesFrom 101 = .ok (.iinc 6 1, 3) := by decide +kernel
theorem dX11_pacesFrom_104 : decode cX11_pacesFrom 104 = .ok (.goto (-101), 3) := by decide +kernel
theorem dX11_pacesFrom_107 : decode cX11_pacesFrom 107 = .ok (.return_, 1) := by decide +kernel
theorem dX11_ant_0 : decode cX11_ant 0 = .ok (.iload_n 1, 1) := by decide +kernel
theorem dX11_ant_1 : decode cX11_ant 1 = .ok (.iconst 0, 1) := by decide +kernel
theorem dX11_ant_2 : decode cX11_ant 2 = .ok (.sipush 2000, 3) := by decide +kernel
theorem dX11_ant_5 : decode cX11_ant 5 = .ok (.invokestatic 100, 3) := by decide +kernel
theorem dX11_ant_8 : decode cX11_ant 8 = .ok (.ifCond .eq 12, 3) := by decide +kernel
theorem dX11_ant_11 : decode cX11_ant 11 = .ok (.iload_n 2, 1) := by decide +kernel
theorem dX11_ant_12 : decode cX11_ant 12 = .ok (.iconst 0, 1) := by decide +kernel
theorem dX11_ant_13 : decode cX11_ant 13 = .ok (.iconst 3, 1) := by decide +kernel
theorem dX11_ant_14 : decode cX11_ant 14 = .ok (.invokestatic 100, 3) := by decide +kernel
theorem dX11_ant_17 : decode cX11_ant 17 = .ok (.ifCond .ne 7, 3) := by decide +kernel
theorem dX11_ant_20 : decode cX11_ant 20 = .ok (.sipush (-10000), 3) := by decide +kernel
theorem dX11_ant_23 : decode cX11_ant 23 = .ok (.ireturn, 1) := by decide +kernel
theorem dX11_ant_24 : decode cX11_ant 24 = .ok (.iconst 0, 1) := by decide +kernel
theorem dX11_ant_25 : decode cX11_ant 25 = .ok (.istore_n 3, 1) := by decide +kernel
theorem dX11_ant_26 : decode cX11_ant 26 = .ok (.iload_n 3, 1) := by decide +kernel
theorem dX11_ant_27 : decode cX11_ant 27 = .ok (.sipush 16384, 3) := by decide +kernel
theorem dX11_ant_30 : decode cX11_ant 30 = .ok (.if_icmp .ge 16, 3) := by decide +kernel
theorem dX11_ant_33 : decode cX11_ant 33 = .ok (.aload_n 0, 1) := by decide +kernel
theorem dX11_ant_34 : decode cX11_ant 34 = .ok (.getfield 68, 3) := by decide +kernel
theorem dX11_ant_37 : decode cX11_ant 37 = .ok (.iload_n 3, 1) := by decide +kernel
theorem dX11_ant_38 : decode cX11_ant 38 = .ok (.iconst 0, 1) := by decide +kernel
theorem dX11_ant_39 : decode cX11_ant 39 = .ok (.iastore, 1) := by decide +kernel
theorem dX11_ant_40 : decode cX11_ant 40 = .ok (.iinc 3 1, 3) := by decide +kernel
theorem dX11_ant_43 : decode cX11_ant 43 = .ok (.goto (-17), 3) := by decide +kernel
theorem dX11_ant_46 : decode cX11_ant 46 = .ok (.iconst 0, 1) := by decide +kernel
theorem dX11_ant_47 : decode cX11_ant 47 = .ok (.istore_n 3, 1) := by decide +kernel
theorem dX11_ant_48 : decode cX11_ant 48 = .ok (.iconst 0, 1) := by decide +kernel
theorem dX11_ant_49 : decode cX11_ant 49 = .ok (.istore 4, 2) := by decide +kernel
theorem dX11_ant_51 : decode cX11_ant 51 = .ok (.iconst 0, 1) := by decide +kernel
theorem dX11_ant_52 : decode cX11_ant 52 = .ok (.istore 5, 2) := by decide +kernel
theorem dX11_ant_54 : decode cX11_ant 54 = .ok (.iconst 0, 1) := by decide +kernel
theorem dX11_ant_55 : decode cX11_ant 55 = .ok (.istore 6, 2) := by decide +kernel
theorem dX11_ant_57 : decode cX11_ant 57 = .ok (.iconst 0, 1) := by decide +kernel
theorem dX11_ant_58 : decode cX11_ant 58 = .ok (.istore 7, 2) := by decide +kernel
theorem dX11_ant_60 : decode cX11_ant 60 = .ok (.iconst 0, 1) := by decide +kernel
theorem dX11_ant_61 : decode cX11_ant 61 = .ok (.istore 8, 2) := by decide +kernel
theorem dX11_ant_63 : decode cX11_ant 63 = .ok (.iload 8, 2) := by decide +kernel
theorem dX11_ant_65 : decode cX11_ant 65 = .ok (.iload_n 1, 1) := by decide +kernel
theorem dX11_ant_66 : decode cX11_ant 66 = .ok (.if_icmp .ge 125, 3) := by decide +kernel
theorem dX11_ant_69 : decode cX11_ant 69 = .ok (.sipush 128, 3) := by decide +kernel
theorem dX11_ant_72 : decode cX11_ant 72 = .ok (.iload 4, 2) := by decide +kernel
theorem dX11_ant_74 : decode cX11_ant 74 = .ok (.bipush 127, 2) := by decide +kernel
theorem dX11_ant_76 : decode cX11_ant 76 = .ok (.iand, 1) := by decide +kernel
theorem dX11_ant_77 : decode cX11_ant 77 = .ok (.imul, 1) := by decide +kernel
theorem dX11_ant_78 : decode cX11_ant 78 = .ok (.iload_n 3, 1) := by decide +kernel
theorem dX11_ant_79 : decode cX11_ant 79 = .ok (.bipush 127, 2) := by decide +kernel
theorem dX11_ant_81 : decode cX11_ant 81 = .ok (.iand, 1) := by decide +kernel
theorem dX11_ant_82 : decode cX11_ant 82 = .ok (.iadd, 1) := by decide +kernel
theorem dX11_ant_83 : decode cX11_ant 83 = .ok (.istore 9, 2) := by decide +kernel
theorem dX11_ant_85 : decode cX11_ant 85 = .ok (.aload_n 0, 1) := by decide +kernel
theorem dX11_ant_86 : decode cX11_ant 86 = .ok (.getfield 68, 3) := by decide +kernel
theorem dX11_ant_89 : decode cX11_ant 89 = .ok (.iload 9, 2) := by decide +kernel
theorem dX11_ant_91 : decode cX11_ant 91 = .ok (.iaload, 1) := by decide +kernel
theorem dX11_ant_92 : decode cX11_ant 92 = .ok (.iconst 1, 1) := by decide +kernel
theorem dX11_ant_93 : decode cX11_ant 93 = .ok (.if_icmp .ne 7, 3) := by decide +kernel
theorem dX11_ant_96 : decode cX11_ant 96 = .ok (.iconst 1, 1) := by decide +kernel
theorem dX11_ant_97 : decode cX11_ant 97 = .ok (.goto 4, 3) := by decide +kernel
theorem dX11_ant_100 : decode cX11_ant 100 = .ok (.iconst 0, 1) := by decide +kernel
theorem dX11_ant_101 : decode cX11_ant 101 = .ok (.istore 10, 2) := by decide +kernel
theorem dX11_ant_103 : decode cX11_ant 103 = .ok (.iload 5, 2) := by decide +kernel
theorem dX11_ant_105 : decode cX11_ant 105 = .ok (.iload 10, 2) := by decide +kernel
theorem dX11_ant_107 : decode cX11_ant 107 = .ok (.ifCond .eq 7, 3) := by decide +kernel
theorem dX11_ant_110 : decode cX11_ant 110 = .ok (.iconst 0, 1) := by decide +kernel
theorem dX11_ant_111 : decode cX11_ant 111 = .ok (.goto 4, 3) := by decide +kernel
theorem dX11_ant_114 : decode cX11_ant 114 = .ok (.iconst 1, 1) := by decide +kernel
theorem dX11_ant_115 : decode cX11_ant 115 = .ok (.invokestatic 263, 3) := by decide +kernel
theorem dX11_ant_118 : decode cX11_ant 118 = .ok (.istore 5, 2) := by decide +kernel
theorem dX11_ant_120 : decode cX11_ant 120 = .ok (.aload_n 0, 1) := by decide +kernel
theorem dX11_ant_121 : decode cX11_ant 121 = .ok (.getfield 68, 3) := by decide +kernel
theorem dX11_ant_124 : decode cX11_ant 124 = .ok (.iload 9, 2) := by decide +kernel
theorem dX11_ant_126 : decode cX11_ant 126 = .ok (.iconst 1, 1) := by decide +kernel
theorem dX11_ant_127 : decode cX11_ant 127 = .ok (.aload_n 0, 1) := by decide +kernel
theorem dX11_ant_128 : decode cX11_ant 128 = .ok (.getfield 68, 3) := by decide +kernel
theorem dX11_ant_131 : decode cX11_ant 131 = .ok (.iload 9, 2) := by decide +kernel
theorem dX11_ant_133 : decode cX11_ant 133 = .ok (.iaload, 1) := by decide +kernel
theorem dX11_ant_134 : decode cX11_ant 134 = .ok (.isub, 1) := by decide +kernel
theorem dX11_ant_135 : decode cX11_ant 135 = .ok (.iastore, 1) := by decide +kernel
theorem dX11_ant_136 : decode cX11_ant 136 = .ok (.iload 6, 2) := by decide +kernel
theorem dX11_ant_138 : decode cX11_ant 138 = .ok (.iload 10, 2) := by decide +kernel
theorem dX11_ant_140 : decode cX11_ant 140 = .ok (.ifCond .eq 7, 3) := by decide +kernel
theorem dX11_ant_143 : decode cX11_ant 143 = .ok (.iconst (-1), 1) := by decide +kernel
theorem dX11_ant_144 : decode cX11_ant 144 = .ok (.goto 4, 3) := by decide +kernel
theorem dX11_ant_147 : decode cX11_ant 147 = .ok (.iconst 1, 1) := by decide +kernel
theorem dX11_ant_148 : decode cX11_ant 148 = .ok (.iadd, 1) := by decide +kernel
theorem dX11_ant_149 : decode cX11_ant 149 = .ok (.istore 6, 2) := by decide +kernel
theorem dX11_ant_151 : decode cX11_ant 151 = .ok (.iload 6, 2) := by decide +kernel
theorem dX11_ant_153 : decode cX11_ant 153 = .ok (.iload 7, 2) := by decide +kernel
theorem dX11_ant_155 : decode cX11_ant 155 = .ok (.if_icmp .le 8, 3) := by decide +kernel
theorem dX11_ant_158 : decode cX11_ant 158 = .ok (.iload 6, 2) := by decide +kernel
theorem dX11_ant_160 : decode cX11_ant 160 = .ok (.goto 5, 3) := by decide +kernel
theorem dX11_ant_163 : decode cX11_ant 163 = .ok (.iload 7, 2) := by decide +kernel
theorem dX11_ant_165 : decode cX11_ant 165 = .ok (.istore 7, 2) := by decide +kernel
theorem dX11_ant_167 : decode cX11_ant 167 = .ok (.iload_n 3, 1) := by decide +kernel
theorem dX11_ant_168 : decode cX11_ant 168 = .ok (.iload 5, 2) := by decide +kernel
theorem dX11_ant_170 : decode cX11_ant 170 = .ok (.invokestatic 285, 3) := by decide +kernel
theorem dX11_ant_173 : decode cX11_ant 173 = .ok (.iadd, 1) := by decide +kernel
theorem dX11_ant_174 : decode cX11_ant 174 = .ok (.istore_n 3, 1) := by decide +kernel
theorem dX11_ant_175 : decode cX11_ant 175 = .ok (.iload 4, 2) := by decide +kernel
theorem dX11_ant_177 : decode cX11_ant 177 = .ok (.iload 5, 2) := by decide +kernel
theorem dX11_ant_179 : decode cX11_ant 179 = .ok (.invokestatic 288, 3) := by decide +kernel
theorem dX11_ant_182 : decode cX11_ant 182 = .ok (.iadd, 1) := by decide +kernel
theorem dX11_ant_183 : decode cX11_ant 183 = .ok (.istore 4, 2) := by decide +kernel
theorem dX11_ant_185 : decode cX11_ant 185 = .ok (.iinc 8 1, 3) := by decide +kernel
theorem dX11_ant_188 : decode cX11_ant 188 = .ok (.goto (-125), 3) := by decide +kernel
theorem dX11_ant_191 : decode cX11_ant 191 = .ok (.iload_n 2, 1) := by decide +kernel
theorem dX11_ant_192 : decode cX11_ant 192 = .ok (.ifCond .ne 8, 3) := by decide +kernel
theorem dX11_ant_195 : decode cX11_ant 195 = .ok (.iload 6, 2) := by decide +kernel
theorem dX11_ant_197 : decode cX11_ant 197 = .ok (.goto 24, 3) := by decide +kernel
theorem dX11_ant_200 : decode cX11_ant 200 = .ok (.iload_n 2, 1) := by decide +kernel
theorem dX11_ant_201 : decode cX11_ant 201 = .ok (.iconst 1, 1) := by decide +kernel
theorem dX11_ant_202 : decode cX11_ant 202 = .ok (.if_icmp .ne 7, 3) := by decide +kernel
theorem dX11_ant_205 : decode cX11_ant 205 = .ok (.iload_n 3, 1) := by decide +kernel
theorem dX11_ant_206 : decode cX11_ant 206 = .ok (.goto 15, 3) := by decide +kernel
theorem dX11_ant_209 : decode cX11_ant 209 = .ok (.iload_n 2, 1) := by decide +kernel
theorem dX11_ant_210 : decode cX11_ant 210 = .ok (.iconst 2, 1) := by decide +kernel
theorem dX11_ant_211 : decode cX11_ant 211 = .ok (.if_icmp .ne 8, 3) := by decide +kernel
theorem dX11_ant_214 : decode cX11_ant 214 = .ok (.iload 4, 2) := by decide +kernel
theorem dX11_ant_216 : decode cX11_ant 216 = .ok (.goto 5, 3) := by decide +kernel
theorem dX11_ant_219 : decode cX11_ant 219 = .ok (.iload 7, 2) := by decide +kernel
theorem dX11_ant_221 : decode cX11_ant 221 = .ok (.ireturn, 1) := by decide +kernel
theorem dX11_hooks_0 : decode cX11_hooks 0 = .ok (.iload_n 1, 1) := by decide +kernel
theorem dX11_hooks_1 : decode cX11_hooks 1 = .ok (.iconst 0, 1) := by decide +kernel
theorem dX11_hooks_2 : decode cX11_hooks 2 = .ok (.bipush 40, 2) := by decide +kernel
theorem dX11_hooks_4 : decode cX11_hooks 4 = .ok (.invokestatic 100, 3) := by decide +kernel
theorem dX11_hooks_7 : decode cX11_hooks 7 = .ok (.ifCond .eq 12, 3) := by decide +kernel
theorem dX11_hooks_10 : decode cX11_hooks 10 = .ok (.iload_n 2, 1) := by decide +kernel
theorem dX11_hooks_11 : decode cX11_hooks 11 = .ok (.iconst 0, 1) := by decide +kernel
theorem dX11_hooks_12 : decode cX11_hooks 12 = .ok (.iconst 1, 1) := by decide +kernel
theorem dX11_hooks_13 : decode cX11_hooks 13 = .ok (.invokestatic 100, 3) := by decide +kernel
theorem dX11_hooks_16 : decode cX11_hooks 16 = .ok (.ifCond .ne 5, 3) := by decide +kernel
theorem dX11_hooks_19 : decode cX11_hooks 19 = .ok (.iconst (-1), 1) := by decide +kernel
theorem dX11_hooks_20 : decode cX11_hooks 20 = .ok (.ireturn, 1) := by decide +kernel
theorem dX11_hooks_21 : decode cX11_hooks 21 = .ok (.iconst 0, 1) := by decide +kernel
theorem dX11_hooks_22 : decode cX11_hooks 22 = .ok (.istore_n 3, 1) := by decide +kernel
theorem dX11_hooks_23 : decode cX11_hooks 23 = .ok (.iload_n 3, 1) := by decide +kernel
theorem dX11_hooks_24 : decode cX11_hooks 24 = .ok (.iconst 4, 1) := by decide +kernel
theorem dX11_hooks_25 : decode cX11_hooks 25 = .ok (.if_icmp .ge 24, 3) := by decide +kernel
theorem dX11_hooks_28 : decode cX11_hooks 28 = .ok (.aload_n 0, 1) := by decide +kernel
theorem dX11_hooks_29 : decode cX11_hooks 29 = .ok (.getfield 71, 3) := by decide +kernel
theorem dX11_hooks_32 : decode cX11_hooks 32 = .ok (.iload_n 3, 1) := by decide +kernel
theorem dX11_hooks_33 : decode cX11_hooks 33 = .ok (.iload_n 3, 1) := by decide +kernel
theorem dX11_hooks_34 : decode cX11_hooks 34 = .ok (.ifCond .ne 7, 3) := by decide +kernel
theorem dX11_hooks_37 : decode cX11_hooks 37 = .ok (.iconst 1, 1) := by decide +kernel
theorem dX11_hooks_38 : decode cX11_hooks 38 = .ok (.goto 4, 3) := by decide +kernel
theorem dX11_hooks_41 : decode cX11_hooks 41 = .ok (.iconst 0, 1) := by decide +kernel
theorem dX11_hooks_42 : decode cX11_hooks 42 = .ok (.iastore, 1) := by decide +kernel
theorem dX11_hooks_43 : decode cX11_hooks 43 = .ok (.iinc 3 1, 3) := by decide +kernel
theorem dX11_hooks_46 : decode cX11_hooks 46 = .ok (.goto (-23), 3) := by decide +kernel
theorem dX11_hooks_49 : decode cX11_hooks 49 = .ok (.iconst 1, 1) := by decide +kernel
theorem dX11_hooks_50 : decode cX11_hooks 50 = .ok (.iload_n 2, 1) := by decide +kernel
theorem dX11_hooks_51 : decode cX11_hooks 51 = .ok (.isub, 1) := by decide +kernel
theorem dX11_hooks_52 : decode cX11_hooks 52 = .ok (.istore_n 3, 1) := by decide +kernel
theorem dX11_hooks_53 : decode cX11_hooks 53 = .ok (.iconst 0, 1) := by decide +kernel
theorem dX11_hooks_54 : decode cX11_hooks 54 = .ok (.istore 4, 2) := by decide +kernel
theorem dX11_hooks_56 : decode cX11_hooks 56 = .ok (.iload 4, 2) := by decide +kernel
theorem dX11_hooks_58 : decode cX11_hooks 58 = .ok (.iload_n 1, 1) := by decide +kernel
theorem dX11_hooks_59 : decode cX11_hooks 59 = .ok (.if_icmp .ge 122, 3) := by decide +kernel
theorem dX11_hooks_62 : decode cX11_hooks 62 = .ok (.aload_n 0, 1) := by decide +kernel
theorem dX11_hooks_63 : decode cX11_hooks 63 = .ok (.getfield 74, 3) := by decide +kernel
theorem dX11_hooks_66 : decode cX11_hooks 66 = .ok (.iconst 0, 1) := by decide +kernel
theorem dX11_hooks_67 : decode cX11_hooks 67 = .ok (.aload_n 0, 1) := by decide +kernel
theorem dX11_hooks_68 : decode cX11_hooks 68 = .ok (.getfield 71, 3) := by decide +kernel
theorem dX11_hooks_71 : decode cX11_hooks 71 = .ok (.iconst 3, 1) := by decide +kernel
theorem dX11_hooks_72 : decode cX11_hooks 72 = .ok (.iaload, 1) := by decide +kernel
theorem dX11_hooks_73 : decode cX11_hooks 73 = .ok (.iload_n 3, 1) := by decide +kernel
theorem dX11_hooks_74 : decode cX11_hooks 74 = .ok (.aload_n 0, 1) := by decide +kernel
theorem dX11_hooks_75 : decode cX11_hooks 75 = .ok (.getfield 71, 3) := by decide +kernel
theorem dX11_hooks_78 : decode cX11_hooks 78 = .ok (.iconst 0, 1) := by decide +kernel
theorem dX11_hooks_79 : decode cX11_hooks 79 = .ok (.iaload, 1) := by decide +kernel
theorem dX11_hooks_80 : decode cX11_hooks 80 = .ok (.imul, 1) := by decide +kernel
theorem dX11_hooks_81 : decode cX11_hooks 81 = .ok (.invokestatic 350, 3) := by decide +kernel
theorem dX11_hooks_84 : decode cX11_hooks 84 = .ok (.iastore, 1) := by decide +kernel
theorem dX11_hooks_85 : decode cX11_hooks 85 = .ok (.aload_n 0, 1) := by decide +kernel
theorem dX11_hooks_86 : decode cX11_hooks 86 = .ok (.getfield 74, 3) := by decide +kernel
theorem dX11_hooks_89 : decode cX11_hooks 89 = .ok (.iconst 1, 1) := by decide +kernel
theorem dX11_hooks_90 : decode cX11_hooks 90 = .ok (.aload_n 0, 1) := by decide +kernel
theorem dX11_hooks_91 : decode cX11_hooks 91 = .ok (.getfield 71, 3) := by decide +kernel
theorem dX11_hooks_94 : decode cX11_hooks 94 = .ok (.iconst 0, 1) := by decide +kernel
theorem dX11_hooks_95 : decode cX11_hooks 95 = .ok (.iaload, 1) := by decide +kernel
theorem dX11_hooks_96 : decode cX11_hooks 96 = .ok (.iload_n 3, 1) := by decide +kernel
theorem dX11_hooks_97 : decode cX11_hooks 97 = .ok (.aload_n 0, 1) := by decide +kernel
theorem dX11_hooks_98 : decode cX11_hooks 98 = .ok (.getfield 71, 3) := by decide +kernel
theorem dX11_hooks_101 : decode cX11_hooks 101 = .ok (.iconst 2, 1) := by decide +kernel
theorem dX11_hooks_102 : decode cX11_hooks 102 = .ok (.iaload, 1) := by decide +kernel
theorem dX11_hooks_103 : decode cX11_hooks 103 = .ok (.imul, 1) := by decide +kernel
theorem dX11_hooks_104 : decode cX11_hooks 104 = .ok (.invokestatic 350, 3) := by decide +kernel
theorem dX11_hooks_107 : decode cX11_hooks 107 = .ok (.iastore, 1) := by decide +kernel
theorem dX11_hooks_108 : decode cX11_hooks 108 = .ok (.aload_n 0, 1) := by decide +kernel
theorem dX11_hooks_109 : decode cX11_hooks 109 = .ok (.getfield 74, 3) := by decide +kernel
theorem dX11_hooks_112 : decode cX11_hooks 112 = .ok (.iconst 2, 1) := by decide +kernel
theorem dX11_hooks_113 : decode cX11_hooks 113 = .ok (.aload_n 0, 1) := by decide +kernel
theorem dX11_hooks_114 : decode cX11_hooks 114 = .ok (.getfield 71, 3) := by decide +kernel
theorem dX11_hooks_117 : decode cX11_hooks 117 = .ok (.iconst 0, 1) := by decide +kernel
theorem dX11_hooks_118 : decode cX11_hooks 118 = .ok (.iaload, 1) := by decide +kernel
theorem dX11_hooks_119 : decode cX11_hooks 119 = .ok (.iload_n 3, 1) := by decide +kernel
theorem dX11_hooks_120 : decode cX11_hooks 120 = .ok (.aload_n 0, 1) := by decide +kernel
theorem dX11_hooks_121 : decode cX11_hooks 121 = .ok (.getfield 71, 3) := by decide +kernel
theorem dX11_hooks_124 : decode cX11_hooks 124 = .ok (.iconst 1, 1) := by decide +kernel
theorem dX11_hooks_125 : decode cX11_hooks 125 = .ok (.iaload, 1) := by decide +kernel
theorem dX11_hooks_126 : decode cX11_hooks 126 = .ok (.imul, 1) := by decide +kernel
theorem dX11_hooks_127 : decode cX11_hooks 127 = .ok (.invokestatic 350, 3) := by decide +kernel
theorem dX11_hooks_130 : decode cX11_hooks 130 = .ok (.iastore, 1) := by decide +kernel
theorem dX11_hooks_131 : decode cX11_hooks 131 = .ok (.aload_n 0, 1) := by decide +kernel
theorem dX11_hooks_132 : decode cX11_hooks 132 = .ok (.getfield 74, 3) := by decide +kernel
theorem dX11_hooks_135 : decode cX11_hooks 135 = .ok (.iconst 3, 1) := by decide +kernel
theorem dX11_hooks_136 : decode cX11_hooks 136 = .ok (.aload_n 0, 1) := by decide +kernel
theorem dX11_hooks_137 : decode cX11_hooks 137 = .ok (.getfield 71, 3) := by decide +kernel
theorem dX11_hooks_140 : decode cX11_hooks 140 = .ok (.iconst 1, 1) := by decide +kernel
theorem dX11_hooks_141 : decode cX11_hooks 141 = .ok (.iaload, 1) := by decide +kernel
theorem dX11_hooks_142 : decode cX11_hooks 142 = .ok (.aload_n 0, 1) := by decide +kernel
theorem dX11_hooks_143 : decode cX11_hooks 143 = .ok (.getfield 71, 3) := by decide +kernel
theorem dX11_hooks_146 : decode cX11_hooks 146 = .ok (.iconst 2, 1) := by decide +kernel
theorem dX11_hooks_147 : decode cX11_hooks 147 = .ok (.iaload, 1) := by decide +kernel
theorem dX11_hooks_148 : decode cX11_hooks 148 = .ok (.invokestatic 350, 3) := by decide +kernel
theorem dX11_hooks_151 : decode cX11_hooks 151 = .ok (.iload_n 3, 1) := by decide +kernel
theorem dX11_hooks_152 : decode cX11_hooks 152 = .ok (.aload_n 0, 1) := by decide +kernel
theorem dX11_hooks_153 : decode cX11_hooks 153 = .ok (.getfield 71, 3) := by decide +kernel
theorem dX11_hooks_156 : decode cX11_hooks 156 = .ok (.iconst 0, 1) := by decide +kernel
theorem dX11_hooks_157 : decode cX11_hooks 157 = .ok (.iaload, 1) := by decide +kernel
theorem dX11_hooks_158 : decode cX11_hooks 158 = .ok (.imul, 1) := by decide +kernel
theorem dX11_hooks_159 : decode cX11_hooks 159 = .ok (.invokestatic 350, 3) := by decide +kernel
theorem dX11_hooks_162 : decode cX11_hooks 162 = .ok (.iastore, 1) := by decide +kernel
theorem dX11_hooks_163 : decode cX11_hooks 163 = .ok (.aload_n 0, 1) := by decide +kernel
theorem dX11_hooks_164 : decode cX11_hooks 164 = .ok (.getfield 74, 3) := by decide +kernel
theorem dX11_hooks_167 : decode cX11_hooks 167 = .ok (.aload_n 0, 1) := by decide +kernel
theorem dX11_hooks_168 : decode cX11_hooks 168 = .ok (.getfield 71, 3) := by decide +kernel
theorem dX11_hooks_171 : decode cX11_hooks 171 = .ok (.iconst 4, 1) := by decide +kernel
theorem dX11_hooks_172 : decode cX11_hooks 172 = .ok (.invokestatic 86, 3) := by decide +kernel
theorem dX11_hooks_175 : decode cX11_hooks 175 = .ok (.iinc 4 1, 3) := by decide +kernel
theorem dX11_hooks_178 : decode cX11_hooks 178 = .ok (.goto (-122), 3) := by decide +kernel
theorem dX11_hooks_181 : decode cX11_hooks 181 = .ok (.aload_n 0, 1) := by decide +kernel
theorem dX11_hooks_182 : decode cX11_hooks 182 = .ok (.getfield 71, 3) := by decide +kernel
theorem dX11_hooks_185 : decode cX11_hooks 185 = .ok (.iconst 0, 1) := by decide +kernel
theorem dX11_hooks_186 : decode cX11_hooks 186 = .ok (.iaload, 1) := by decide +kernel
theorem dX11_hooks_187 : decode cX11_hooks 187 = .ok (.ireturn, 1) := by decide +kernel
theorem dX11_besides_0 : decode cX11_besides 0 = .ok (.iload_n 1, 1) := by decide +kernel
theorem dX11_besides_1 : decode cX11_besides 1 = .ok (.bipush 12, 2) := by decide +kernel
theorem dX11_besides_3 : decode cX11_besides 3 = .ok (.irem, 1) := by decide +kernel
theorem dX11_besides_4 : decode cX11_besides 4 = .ok (.ifCond .ne 7, 3) := by decide +kernel
theorem dX11_besides_7 : decode cX11_besides 7 = .ok (.iconst 0, 1) := by decide +kernel
theorem dX11_besides_8 : decode cX11_besides 8 = .ok (.goto 6, 3) := by decide +kernel
theorem dX11_besides_11 : decode cX11_besides 11 = .ok (.sipush 9999, 3) := by decide +kernel
theorem dX11_besides_14 : decode cX11_besides 14 = .ok (.istore_n 2, 1) := by decide +kernel
theorem dX11_besides_15 : decode cX11_besides 15 = .ok (.iconst 0, 1) := by decide +kernel
theorem dX11_besides_16 : decode cX11_besides 16 = .ok (.istore_n 3, 1) := by decide +kernel
theorem dX11_besides_17 : decode cX11_besides 17 = .ok (.iload_n 3, 1) := by decide +kernel
theorem dX11_besides_18 : decode cX11_besides 18 = .ok (.bipush 9, 2) := by decide +kernel
theorem dX11_besides_20 : decode cX11_besides 20 = .ok (.if_icmp .ge 72, 3) := by decide +kernel
theorem dX11_besides_23 : decode cX11_besides 23 = .ok (.iload_n 1, 1) := by decide +kernel
theorem dX11_besides_24 : decode cX11_besides 24 = .ok (.bipush 12, 2) := by decide +kernel
theorem dX11_besides_26 : decode cX11_besides 26 = .ok (.irem, 1) := by decide +kernel
theorem dX11_besides_27 : decode cX11_besides 27 = .ok (.iload_n 3, 1) := by decide +kernel
theorem dX11_besides_28 : decode cX11_besides 28 = .ok (.iconst 3, 1) := by decide +kernel
theorem dX11_besides_29 : decode cX11_besides 29 = .ok (.irem, 1) := by decide +kernel
theorem dX11_besides_30 : decode cX11_besides 30 = .ok (.iadd, 1) := by decide +kernel
theorem dX11_besides_31 : decode cX11_besides 31 = .ok (.iconst 1, 1) := by decide +kernel
theorem dX11_besides_32 : decode cX11_besides 32 = .ok (.isub, 1) := by decide +kernel
theorem dX11_besides_33 : decode cX11_besides 33 = .ok (.istore 4, 2) := by decide +kernel
theorem dX11_besides_35 : decode cX11_besides 35 = .ok (.iload_n 1, 1) := by decide +kernel
theorem dX11_besides_36 : decode cX11_besides 36 = .ok (.bipush 12, 2) := by decide +kernel
theorem dX11_besides_38 : decode cX11_besides 38 = .ok (.idiv, 1) := by decide +kernel
theorem dX11_besides_39 : decode cX11_besides 39 = .ok (.iload_n 3, 1) := by decide +kernel
theorem dX11_besides_40 : decode cX11_besides 40 = .ok (.iconst 3, 1) := by decide +kernel
theorem dX11_besides_41 : decode cX11_besides 41 = .ok (.idiv, 1) := by decide +kernel
theorem dX11_besides_42 : decode cX11_besides 42 = .ok (.iadd, 1) := by decide +kernel
theorem dX11_besides_43 : decode cX11_besides 43 = .ok (.iconst 1, 1) := by decide +kernel
theorem dX11_besides_44 : decode cX11_besides 44 = .ok (.isub, 1) := by decide +kernel
theorem dX11_besides_45 : decode cX11_besides 45 = .ok (.istore 5, 2) := by decide +kernel
theorem dX11_besides_47 : decode cX11_besides 47 = .ok (.iload 4, 2) := by decide +kernel
theorem dX11_besides_49 : decode cX11_besides 49 = .ok (.iload 5, 2) := by decide +kernel
theorem dX11_besides_51 : decode cX11_besides 51 = .ok (.invokestatic 291, 3) := by decide +kernel
theorem dX11_besides_54 : decode cX11_besides 54 = .ok (.ifCond .eq 32, 3) := by decide +kernel
theorem dX11_besides_57 : decode cX11_besides 57 = .ok (.aload_n 0, 1) := by decide +kernel
theorem dX11_besides_58 : decode cX11_besides 58 = .ok (.getfield 77, 3) := by decide +kernel
theorem dX11_besides_61 : decode cX11_besides 61 = .ok (.iload 4, 2) := by decide +kernel
theorem dX11_besides_63 : decode cX11_besides 63 = .ok (.iload 5, 2) := by decide +kernel
theorem dX11_besides_65 : decode cX11_besides 65 = .ok (.invokestatic 108, 3) := by decide +kernel
theorem dX11_besides_68 : decode cX11_besides 68 = .ok (.iaload, 1) := by decide +kernel
theorem dX11_besides_69 : decode cX11_besides 69 = .ok (.iload_n 2, 1) := by decide +kernel
theorem dX11_besides_70 : decode cX11_besides 70 = .ok (.if_icmp .ge 16, 3) := by decide +kernel
theorem dX11_besides_73 : decode cX11_besides 73 = .ok (.aload_n 0, 1) := by decide +kernel
theorem dX11_besides_74 : decode cX11_besides 74 = .ok (.getfield 77, 3) := by decide +kernel
theorem dX11_besides_77 : decode cX11_besides 77 = .ok (.iload 4, 2) := by decide +kernel
theorem dX11_besides_79 : decode cX11_besides 79 = .ok (.iload 5, 2) := by decide +kernel
theorem dX11_besides_81 : decode cX11_besides 81 = .ok (.invokestatic 108, 3) := by decide +kernel
theorem dX11_besides_84 : decode cX11_besides 84 = .ok (.iaload, 1) := by decide +kernel
theorem dX11_besides_85 : decode cX11_besides 85 = .ok (.istore_n 2, 1) := by decide +kernel
theorem dX11_besides_86 : decode cX11_besides 86 = .ok (.iinc 3 1, 3) := by decide +kernel
theorem dX11_besides_89 : decode cX11_besides 89 = .ok (.goto (-72), 3) := by decide +kernel
theorem dX11_besides_92 : decode cX11_besides 92 = .ok (.iload_n 2, 1) := by decide +kernel
theorem dX11_besides_93 : decode cX11_besides 93 = .ok (.ireturn, 1) := by decide +kernel
theorem dX11_apart_0 : decode cX11_apart 0 = .ok (.iload_n 1, 1) := by decide +kernel
theorem dX11_apart_1 : decode cX11_apart 1 = .ok (.iconst 0, 1) := by decide +kernel
theorem dX11_apart_2 : decode cX11_apart 2 = .ok (.iconst 1, 1) := by decide +kernel
theorem dX11_apart_3 : decode cX11_apart 3 = .ok (.invokestatic 100, 3) := by decide +kernel
theorem dX11_apart_6 : decode cX11_apart 6 = .ok (.ifCond .ne 5, 3) := by decide +kernel
theorem dX11_apart_9 : decode cX11_apart 9 = .ok (.iconst (-1), 1) := by decide +kernel
theorem dX11_apart_10 : decode cX11_apart 10 = .ok (.ireturn, 1) := by decide +kernel
theorem dX11_apart_11 : decode cX11_apart 11 = .ok (.iconst 0, 1) := by decide +kernel
theorem dX11_apart_12 : decode cX11_apart 12 = .ok (.istore_n 2, 1) := by decide +kernel
theorem dX11_apart_13 : decode cX11_apart 13 = .ok (.iload_n 2, 1) := by decide +kernel
theorem dX11_apart_14 : decode cX11_apart 14 = .ok (.sipush 144, 3) := by decide +kernel
theorem dX11_apart_17 : decode cX11_apart 17 = .ok (.if_icmp .ge 18, 3) := by decide +kernel
theorem dX11_apart_20 : decode cX11_apart 20 = .ok (.aload_n 0, 1) := by decide +kernel
theorem dX11_apart_21 : decode cX11_apart 21 = .ok (.getfield 77, 3) := by decide +kernel
theorem dX11_apart_24 : decode cX11_apart 24 = .ok (.iload_n 2, 1) := by decide +kernel
theorem dX11_apart_25 : decode cX11_apart 25 = .ok (.sipush 9999, 3) := by decide +kernel
theorem dX11_apart_28 : decode cX11_apart 28 = .ok (.iastore, 1) := by decide +kernel
theorem dX11_apart_29 : decode cX11_apart 29 = .ok (.iinc 2 1, 3) := by decide +kernel
theorem dX11_apart_32 : decode cX11_apart 32 = .ok (.goto (-19), 3) := by decide +kernel
theorem dX11_apart_35 : decode cX11_apart 35 = .ok (.iconst 1, 1) := by decide +kernel
theorem dX11_apart_36 : decode cX11_apart 36 = .ok (.istore_n 2, 1) := by decide +kernel
theorem dX11_apart_37 : decode cX11_apart 37 = .ok (.iload_n 2, 1) := by decide +kernel
theorem dX11_apart_38 : decode cX11_apart 38 = .ok (.ifCond .eq 70, 3) := by decide +kernel
theorem dX11_apart_41 : decode cX11_apart 41 = .ok (.iconst 0, 1) := by decide +kernel
theorem dX11_apart_42 : decode cX11_apart 42 = .ok (.istore_n 2, 1) := by decide +kernel
theorem dX11_apart_43 : decode cX11_apart 43 = .ok (.iconst 0, 1) := by decide +kernel
theorem dX11_apart_44 : decode cX11_apart 44 = .ok (.istore_n 3, 1) := by decide +kernel
theorem dX11_apart_45 : decode cX11_apart 45 = .ok (.iload_n 3, 1) := by decide +kernel
theorem dX11_apart_46 : decode cX11_apart 46 = .ok (.sipush 144, 3) := by decide +kernel
theorem dX11_apart_49 : decode cX11_apart 49 = .ok (.if_icmp .ge 56, 3) := by decide +kernel
theorem dX11_apart_52 : decode cX11_apart 52 = .ok (.aload_n 0, 1) := by decide +kernel
theorem dX11_apart_53 : decode cX11_apart 53 = .ok (.iload_n 3, 1) := by decide +kernel
theorem dX11_apart_54 : decode cX11_apart 54 = .ok (.invokevirtual 396, 3) := by decide +kernel
theorem dX11_apart_57 : decode cX11_apart 57 = .ok (.aload_n 0, 1) := by decide +kernel
theorem dX11_apart_58 : decode cX11_apart 58 = .ok (.getfield 9, 3) := by decide +kernel
theorem dX11_apart_61 : decode cX11_apart 61 = .ok (.iload_n 3, 1) := by decide +kernel
theorem dX11_apart_62 : decode cX11_apart 62 = .ok (.iaload, 1) := by decide +kernel
theorem dX11_apart_63 : decode cX11_apart 63 = .ok (.iconst 1, 1) := by decide +kernel
theorem dX11_apart_64 : decode cX11_apart 64 = .ok (.if_icmp .ne 7, 3) := by decide +kernel
theorem dX11_apart_67 : decode cX11_apart 67 = .ok (.iconst 0, 1) := by decide +kernel
theorem dX11_apart_68 : decode cX11_apart 68 = .ok (.goto 4, 3) := by decide +kernel
theorem dX11_apart_71 : decode cX11_apart 71 = .ok (.iconst 1, 1) := by decide +kernel
theorem dX11_apart_72 : decode cX11_apart 72 = .ok (.iadd, 1) := by decide +kernel
theorem dX11_apart_73 : decode cX11_apart 73 = .ok (.istore 4, 2) := by decide +kernel
theorem dX11_apart_75 : decode cX11_apart 75 = .ok (.iload 4, 2) := by decide +kernel
theorem dX11_apart_77 : decode cX11_apart 77 = .ok (.aload_n 0, 1) := by decide +kernel
theorem dX11_apart_78 : decode cX11_apart 78 = .ok (.getfield 77, 3) := by decide +kernel
theorem dX11_apart_81 : decode cX11_apart 81 = .ok (.iload_n 3, 1) := by decide +kernel
theorem dX11_apart_82 : decode cX11_apart 82 = .ok (.iaload, 1) := by decide +kernel
theorem dX11_apart_83 : decode cX11_apart 83 = .ok (.if_icmp .lt 6, 3) := by decide +kernel
theorem dX11_apart_86 : decode cX11_apart 86 = .ok (.goto 13, 3) := by decide +kernel
theorem dX11_apart_89 : decode cX11_apart 89 = .ok (.aload_n 0, 1) := by decide +kernel
theorem dX11_apart_90 : decode cX11_apart 90 = .ok (.getfield 77, 3) := by decide +kernel
theorem dX11_apart_93 : decode cX11_apart 93 = .ok (.iload_n 3, 1) := by decide +kernel
theorem dX11_apart_94 : decode cX11_apart 94 = .ok (.iload 4, 2) := by decide +kernel
theorem dX11_apart_96 : decode cX11_apart 96 = .ok (.iastore, 1) := by decide +kernel
theorem dX11_apart_97 : decode cX11_apart 97 = .ok (.iconst 1, 1) := by decide +kernel
theorem dX11_apart_98 : decode cX11_apart 98 = .ok (.istore_n 2, 1) := by decide +kernel
theorem dX11_apart_99 : decode cX11_apart 99 = .ok (.iinc 3 1, 3) := by decide +kernel
theorem dX11_apart_102 : decode cX11_apart 102 = .ok (.goto (-57), 3) := by decide +kernel
theorem dX11_apart_105 : decode cX11_apart 105 = .ok (.goto (-68), 3) := by decide +kernel
theorem dX11_apart_108 : decode cX11_apart 108 = .ok (.sipush 9999, 3) := by decide +kernel
theorem dX11_apart_111 : decode cX11_apart 111 = .ok (.istore_n 3, 1) := by decide +kernel
theorem dX11_apart_112 : decode cX11_apart 112 = .ok (.iconst 0, 1) := by decide +kernel
theorem dX11_apart_113 : decode cX11_apart 113 = .ok (.istore 4, 2) := by decide +kernel
theorem dX11_apart_115 : decode cX11_apart 115 = .ok (.iload 4, 2) := by decide +kernel
theorem dX11_apart_117 : decode cX11_apart 117 = .ok (.bipush 12, 2) := by decide +kernel
theorem dX11_apart_119 : decode cX11_apart 119 = .ok (.if_icmp .ge 42, 3) := by decide +kernel
theorem dX11_apart_122 : decode cX11_apart 122 = .ok (.aload_n 0, 1) := by decide +kernel
theorem dX11_apart_123 : decode cX11_apart 123 = .ok (.getfield 77, 3) := by decide +kernel
theorem dX11_apart_126 : decode cX11_apart 126 = .ok (.bipush 11, 2) := by decide +kernel
theorem dX11_apart_128 : decode cX11_apart 128 = .ok (.iload 4, 2) := by decide +kernel
theorem dX11_apart_130 : decode cX11_apart 130 = .ok (.invokestatic 108, 3) := by decide +kernel
theorem dX11_apart_133 : decode cX11_apart 133 = .ok (.iaload, 1) := by decide +kernel
theorem dX11_apart_134 : decode cX11_apart 134 = .ok (.iload_n 3, 1) := by decide +kernel
theorem dX11_apart_135 : decode cX11_apart 135 = .ok (.if_icmp .ge 18, 3) := by decide +kernel
theorem dX11_apart_138 : decode cX11_apart 138 = .ok (.aload_n 0, 1) := by decide +kernel
theorem dX11_apart_139 : decode cX11_apart 139 = .ok (.getfield 77, 3) := by decide +kernel
theorem dX11_apart_142 : decode cX11_apart 142 = .ok (.bipush 11, 2) := by decide +kernel
theorem dX11_apart_144 : decode cX11_apart 144 = .ok (.iload 4, 2) := by decide +kernel
theorem dX11_apart_146 : decode cX11_apart 146 = .ok (.invokestatic 108, 3) := by decide +kernel
theorem dX11_apart_149 : decode cX11_apart 149 = .ok (.iaload, 1) := by decide +kernel
theorem dX11_apart_150 : decode cX11_apart 150 = .ok (.goto 4, 3) := by decide +kernel
theorem dX11_apart_153 : decode cX11_apart 153 = .ok (.iload_n 3, 1) := by decide +kernel
theorem dX11_apart_154 : decode cX11_apart 154 = .ok (.istore_n 3, 1) := by decide +kernel
theorem dX11_apart_155 : decode cX11_apart 155 = .ok (.iinc 4 1, 3) := by decide +kernel
theorem dX11_apart_158 : decode cX11_apart 158 = .ok (.goto (-43), 3) := by decide +kernel
theorem dX11_apart_161 : decode cX11_apart 161 = .ok (.iload_n 3, 1) := by decide +kernel
theorem dX11_apart_162 : decode cX11_apart 162 = .ok (.ireturn, 1) := by decide +kernel
theorem dX11_besideOne_0 : decode cX11_besideOne 0 = .ok (.iconst 0, 1) := by decide +kernel
theorem dX11_besideOne_1 : decode cX11_besideOne 1 = .ok (.istore_n 2, 1) := by decide +kernel
theorem dX11_besideOne_2 : decode cX11_besideOne 2 = .ok (.iconst 0, 1) := by decide +kernel
theorem dX11_besideOne_3 : decode cX11_besideOne 3 = .ok (.istore_n 3, 1) := by decide +kernel
theorem dX11_besideOne_4 : decode cX11_besideOne 4 = .ok (.iload_n 3, 1) := by decide +kernel
theorem dX11_besideOne_5 : decode cX11_besideOne 5 = .ok (.iconst 4, 1) := by decide +kernel
theorem dX11_besideOne_6 : decode cX11_besideOne 6 = .ok (.if_icmp .ge 28, 3) := by decide +kernel
theorem dX11_besideOne_9 : decode cX11_besideOne 9 = .ok (.iload_n 2, 1) := by decide +kernel
theorem dX11_besideOne_10 : decode cX11_besideOne 10 = .ok (.aload_n 0, 1) := by decide +kernel
theorem dX11_besideOne_11 : decode cX11_besideOne 11 = .ok (.iload_n 1, 1) := by decide +kernel
theorem dX11_besideOne_12 : decode cX11_besideOne 12 = .ok (.iload_n 3, 1) := by decide +kernel
theorem dX11_besideOne_13 : decode cX11_besideOne 13 = .ok (.iconst 1, 1) := by decide +kernel
theorem dX11_besideOne_14 : decode cX11_besideOne 14 = .ok (.invokevirtual 334, 3) := by decide +kernel
theorem dX11_besideOne_17 : decode cX11_besideOne 17 = .ok (.iconst (-1), 1) := by decide +kernel
theorem dX11_besideOne_18 : decode cX11_besideOne 18 = .ok (.if_icmp .ne 7, 3) := by decide +kernel
theorem dX11_besideOne_21 : decode cX11_besideOne 21 = .ok (.iconst 0, 1) := by decide +kernel
theorem dX11_besideOne_22 : decode cX11_besideOne 22 = .ok (.goto 4, 3) := by decide +kernel
theorem dX11_besideOne_25 : decode cX11_besideOne 25 = .ok (.iconst 1, 1) := by decide +kernel
theorem dX11_besideOne_26 : decode cX11_besideOne 26 = .ok (.iadd, 1) := by decide +kernel
theorem dX11_besideOne_27 : decode cX11_besideOne 27 = .ok (.istore_n 2, 1) := by decide +kernel
theorem dX11_besideOne_28 : decode cX11_besideOne 28 = .ok (.iinc 3 1, 3) := by decide +kernel
theorem dX11_besideOne_31 : decode cX11_besideOne 31 = .ok (.goto (-27), 3) := by decide +kernel
theorem dX11_besideOne_34 : decode cX11_besideOne 34 = .ok (.iload_n 2, 1) := by decide +kernel
theorem dX11_besideOne_35 : decode cX11_besideOne 35 = .ok (.ireturn, 1) := by decide +kernel
theorem dX11_layFlocks_0 : decode cX11_layFlocks 0 = .ok (.iconst 0, 1) := by decide +kernel
theorem dX11_layFlocks_1 : decode cX11_layFlocks 1 = .ok (.istore_n 1, 1) := by decide +kernel
theorem dX11_layFlocks_2 : decode cX11_layFlocks 2 = .ok (.iload_n 1, 1) := by decide +kernel
theorem dX11_layFlocks_3 : decode cX11_layFlocks 3 = .ok (.sipush 144, 3) := by decide +kernel
theorem dX11_layFlocks_6 : decode cX11_layFlocks 6 = .ok (.if_icmp .ge 30, 3) := by decide +kernel
theorem dX11_layFlocks_9 : decode cX11_layFlocks 9 = .ok (.aload_n 0, 1) := by decide +kernel
theorem dX11_layFlocks_10 : decode cX11_layFlocks 10 = .ok (.getfield 80, 3) := by decide +kernel
theorem dX11_layFlocks_13 : decode cX11_layFlocks 13 = .ok (.iload_n 1, 1) := by decide +kernel
theorem dX11_layFlocks_14 : decode cX11_layFlocks 14 = .ok (.aload_n 0, 1) := by decide +kernel
theorem dX11_layFlocks_15 : decode cX11_layFlocks 15 = .ok (.getfield 9, 3) := by decide +kernel
theorem dX11_layFlocks_18 : decode cX11_layFlocks 18 = .ok (.iload_n 1, 1) := by decide +kernel
theorem dX11_layFlocks_19 : decode cX11_layFlocks 19 = .ok (.iaload, 1) := by decide +kernel
theorem dX11_layFlocks_20 : decode cX11_layFlocks 20 = .ok (.iconst 1, 1) := by decide +kernel
theorem dX11_layFlocks_21 : decode cX11_layFlocks 21 = .ok (.if_icmp .ne 7, 3) := by decide +kernel
theorem dX11_layFlocks_24 : decode cX11_layFlocks 24 = .ok (.iconst (-1), 1) := by decide +kernel
theorem dX11_layFlocks_25 : decode cX11_layFlocks 25 = .ok (.goto 4, 3) := by decide +kernel
theorem dX11_layFlocks_28 : decode cX11_layFlocks 28 = .ok (.iload_n 1, 1) := by decide +kernel
theorem dX11_layFlocks_29 : decode cX11_layFlocks 29 = .ok (.iastore, 1) := by decide +kernel
theorem dX11_layFlocks_30 : decode cX11_layFlocks 30 = .ok (.iinc 1 1, 3) := by decide +kernel
theorem dX11_layFlocks_33 : decode cX11_layFlocks 33 = .ok (.goto (-31), 3) := by decide +kernel
theorem dX11_layFlocks_36 : decode cX11_layFlocks 36 = .ok (.iconst 1, 1) := by decide +kernel
theorem dX11_layFlocks_37 : decode cX11_layFlocks 37 = .ok (.istore_n 1, 1) := by decide +kernel
theorem dX11_layFlocks_38 : decode cX11_layFlocks 38 = .ok (.iload_n 1, 1) := by decide +kernel
theorem dX11_layFlocks_39 : decode cX11_layFlocks 39 = .ok (.ifCond .eq 92, 3) := by decide +kernel
theorem dX11_layFlocks_42 : decode cX11_layFlocks 42 = .ok (.iconst 0, 1) := by decide +kernel
theorem dX11_layFlocks_43 : decode cX11_layFlocks 43 = .ok (.istore_n 1, 1) := by decide +kernel
theorem dX11_layFlocks_44 : decode cX11_layFlocks 44 = .ok (.iconst 0, 1) := by decide +kernel
theorem dX11_layFlocks_45 : decode cX11_layFlocks 45 = .ok (.istore_n 2, 1) := by decide +kernel
theorem dX11_layFlocks_46 : decode cX11_layFlocks 46 = .ok (.iload_n 2, 1) := by decide +kernel
theorem dX11_layFlocks_47 : decode cX11_layFlocks 47 = .ok (.sipush 576, 3) := by decide +kernel
theorem dX11_layFlocks_50 : decode cX11_layFlocks 50 = .ok (.if_icmp .ge 78, 3) := by decide +kernel
theorem dX11_layFlocks_53 : decode cX11_layFlocks 53 = .ok (.aload_n 0, 1) := by decide +kernel
theorem dX11_layFlocks_54 : decode cX11_layFlocks 54 = .ok (.getfield 9, 3) := by decide +kernel
theorem dX11_layFlocks_57 : decode cX11_layFlocks 57 = .ok (.iload_n 2, 1) := by decide +kernel
theorem dX11_layFlocks_58 : decode cX11_layFlocks 58 = .ok (.iconst 4, 1) := by decide +kernel
theorem dX11_layFlocks_59 : decode cX11_layFlocks 59 = .ok (.idiv, 1) := by decide +kernel
theorem dX11_layFlocks_60 : decode cX11_layFlocks 60 = .ok (.iaload, 1) := by decide +kernel
theorem dX11_layFlocks_61 : decode cX11_layFlocks 61 = .ok (.iconst 1, 1) := by decide +kernel
theorem dX11_layFlocks_62 : decode cX11_layFlocks 62 = .ok (.if_icmp .ne 7, 3) := by decide +kernel
theorem dX11_layFlocks_65 : decode cX11_layFlocks 65 = .ok (.iconst (-1), 1) := by decide +kernel
theorem dX11_layFlocks_66 : decode cX11_layFlocks 66 = .ok (.goto 14, 3) := by decide +kernel
theorem dX11_layFlocks_69 : decode cX11_layFlocks 69 = .ok (.aload_n 0, 1) := by decide +kernel
theorem dX11_layFlocks_70 : decode cX11_layFlocks 70 = .ok (.iload_n 2, 1) := by decide +kernel
theorem dX11_layFlocks_71 : decode cX11_layFlocks 71 = .ok (.iconst 4, 1) := by decide +kernel
theorem dX11_layFlocks_72 : decode cX11_layFlocks 72 = .ok (.idiv, 1) := by decide +kernel
theorem dX11_layFlocks_73 : decode cX11_layFlocks 73 = .ok (.iload_n 2, 1) := by decide +kernel
theorem dX11_layFlocks_74 : decode cX11_layFlocks 74 = .ok (.iconst 4, 1) := by decide +kernel
theorem dX11_layFlocks_75 : decode cX11_layFlocks 75 = .ok (.irem, 1) := by decide +kernel
theorem dX11_layFlocks_76 : decode cX11_layFlocks 76 = .ok (.iconst 1, 1) := by decide +kernel
theorem dX11_layFlocks_77 : decode cX11_layFlocks 77 = .ok (.invokevirtual 334, 3) := by decide +kernel
theorem dX11_layFlocks_80 : decode cX11_layFlocks 80 = .ok (.istore_n 3, 1) := by decide +kernel
theorem dX11_layFlocks_81 : decode cX11_layFlocks 81 = .ok (.iload_n 3, 1) := by decide +kernel
theorem dX11_layFlocks_82 : decode cX11_layFlocks 82 = .ok (.iconst (-1), 1) := by decide +kernel
theorem dX11_layFlocks_83 : decode cX11_layFlocks 83 = .ok (.if_icmp .eq 39, 3) := by decide +kernel
theorem dX11_layFlocks_86 : decode cX11_layFlocks 86 = .ok (.aload_n 0, 1) := by decide +kernel
theorem dX11_layFlocks_87 : decode cX11_layFlocks 87 = .ok (.getfield 80, 3) := by decide +kernel
theorem dX11_layFlocks_90 : decode cX11_layFlocks 90 = .ok (.iload_n 3, 1) := by decide +kernel
theorem dX11_layFlocks_91 : decode cX11_layFlocks 91 = .ok (.iaload, 1) := by decide +kernel
theorem dX11_layFlocks_92 : decode cX11_layFlocks 92 = .ok (.aload_n 0, 1) := by decide +kernel
theorem dX11_layFlocks_93 : decode cX11_layFlocks 93 = .ok (.getfield 80, 3) := by decide +kernel
theorem dX11_layFlocks_96 : decode cX11_layFlocks 96 = .ok (.iload_n 2, 1) := by decide +kernel
theorem dX11_layFlocks_97 : decode cX11_layFlocks 97 = .ok (.iconst 4, 1) := by decide +kernel
theorem dX11_layFlocks_98 : decode cX11_layFlocks 98 = .ok (.idiv, 1) := by decide +kernel
theorem dX11_layFlocks_99 : decode cX11_layFlocks 99 = .ok (.iaload, 1) := by decide +kernel
theorem dX11_layFlocks_100 : decode cX11_layFlocks 100 = .ok (.if_icmp .lt 6, 3) := by decide +kernel
theorem dX11_layFlocks_103 : decode cX11_layFlocks 103 = .ok (.goto 19, 3) := by decide +kernel
theorem dX11_layFlocks_106 : decode cX11_layFlocks 106 = .ok (.aload_n 0, 1) := by decide +kernel
theorem dX11_layFlocks_107 : decode cX11_layFlocks 107 = .ok (.getfield 80, 3) := by decide +kernel
theorem dX11_layFlocks_110 : decode cX11_layFlocks 110 = .ok (.iload_n 2, 1) := by decide +kernel
theorem dX11_layFlocks_111 : decode cX11_layFlocks 111 = .ok (.iconst 4, 1) := by decide +kernel
theorem dX11_layFlocks_112 : decode cX11_layFlocks 112 = .ok (.idiv, 1) := by decide +kernel
theorem dX11_layFlocks_113 : decode cX11_layFlocks 113 = .ok (.aload_n 0, 1) := by decide +kernel
theorem dX11_layFlocks_114 : decode cX11_layFlocks 114 = .ok (.getfield 80, 3) := by decide +kernel
theorem dX11_layFlocks_117 : decode cX11_layFlocks 117 = .ok (.iload_n 3, 1) := by decide +kernel
theorem dX11_layFlocks_118 : decode cX11_layFlocks 118 = .ok (.iaload, 1) := by decide +kernel
theorem dX11_layFlocks_119 : decode cX11_layFlocks 119 = .ok (.iastore, 1) := by decide +kernel
theorem dX11_layFlocks_120 : decode cX11_layFlocks 120 = .ok (.iconst 1, 1) := by decide +kernel
theorem dX11_layFlocks_121 : decode cX11_layFlocks 121 = .ok (.istore_n 1, 1) := by decide +kernel
theorem dX11_layFlocks_122 : decode cX11_layFlocks 122 = .ok (.iinc 2 1, 3) := by decide +kernel
theorem dX11_layFlocks_125 : decode cX11_layFlocks 125 = .ok (.goto (-79), 3) := by decide +kernel
theorem dX11_layFlocks_128 : decode cX11_layFlocks 128 = .ok (.goto (-90), 3) := by decide +kernel
theorem dX11_layFlocks_131 : decode cX11_layFlocks 131 = .ok (.return_, 1) := by decide +kernel
theorem dX11_pigeons_0 : decode cX11_pigeons 0 = .ok (.iload_n 1, 1) := by decide +kernel
theorem dX11_pigeons_1 : decode cX11_pigeons 1 = .ok (.iconst 0, 1) := by decide +kernel
theorem dX11_pigeons_2 : decode cX11_pigeons 2 = .ok (.iconst 2, 1) := by decide +kernel
theorem dX11_pigeons_3 : decode cX11_pigeons 3 = .ok (.invokestatic 100, 3) := by decide +kernel
theorem dX11_pigeons_6 : decode cX11_pigeons 6 = .ok (.ifCond .ne 5, 3) := by decide +kernel
theorem dX11_pigeons_9 : decode cX11_pigeons 9 = .ok (.iconst (-1), 1) := by decide +kernel
theorem dX11_pigeons_10 : decode cX11_pigeons 10 = .ok (.ireturn, 1) := by decide +kernel
theorem dX11_pigeons_11 : decode cX11_pigeons 11 = .ok (.aload_n 0, 1) := by decide +kernel
theorem dX11_pigeons_12 : decode cX11_pigeons 12 = .ok (.invokevirtual 399, 3) := by decide +kernel
theorem dX11_pigeons_15 : decode cX11_pigeons 15 = .ok (.iconst 0, 1) := by decide +kernel
theorem dX11_pigeons_16 : decode cX11_pigeons 16 = .ok (.istore_n 2, 1) := by decide +kernel
theorem dX11_pigeons_17 : decode cX11_pigeons 17 = .ok (.iconst 0, 1) := by decide +kernel
theorem dX11_pigeons_18 : decode cX11_pigeons 18 = .ok (.istore_n 3, 1) := by decide +kernel
theorem dX11_pigeons_19 : decode cX11_pigeons 19 = .ok (.iconst 0, 1) := by decide +kernel
theorem dX11_pigeons_20 : decode cX11_pigeons 20 = .ok (.istore 4, 2) := by decide +kernel
theorem dX11_pigeons_22 : decode cX11_pigeons 22 = .ok (.iconst 0, 1) := by decide +kernel
theorem dX11_pigeons_23 : decode cX11_pigeons 23 = .ok (.istore 5, 2) := by decide +kernel
theorem dX11_pigeons_25 : decode cX11_pigeons 25 = .ok (.iload 5, 2) := by decide +kernel
theorem dX11_pigeons_27 : decode cX11_pigeons 27 = .ok (.sipush 144, 3) := by decide +kernel
theorem dX11_pigeons_30 : decode cX11_pigeons 30 = .ok (.if_icmp .ge 111, 3) := by decide +kernel
theorem dX11_pigeons_33 : decode cX11_pigeons 33 = .ok (.aload_n 0, 1) := by decide +kernel
theorem dX11_pigeons_34 : decode cX11_pigeons 34 = .ok (.getfield 80, 3) := by decide +kernel
theorem dX11_pigeons_37 : decode cX11_pigeons 37 = .ok (.iload 5, 2) := by decide +kernel
theorem dX11_pigeons_39 : decode cX11_pigeons 39 = .ok (.iaload, 1) := by decide +kernel
theorem dX11_pigeons_40 : decode cX11_pigeons 40 = .ok (.iconst (-1), 1) := by decide +kernel
theorem dX11_pigeons_41 : decode cX11_pigeons 41 = .ok (.if_icmp .ne 6, 3) := by decide +kernel
theorem dX11_pigeons_44 : decode cX11_pigeons 44 = .ok (.goto 91, 3) := by decide +kernel
theorem dX11_pigeons_47 : decode cX11_pigeons 47 = .ok (.iconst 0, 1) := by decide +kernel
theorem dX11_pigeons_48 : decode cX11_pigeons 48 = .ok (.istore 6, 2) := by decide +kernel
theorem dX11_pigeons_50 : decode cX11_pigeons 50 = .ok (.iconst 0, 1) := by decide +kernel
theorem dX11_pigeons_51 : decode cX11_pigeons 51 = .ok (.istore 7, 2) := by decide +kernel
theorem dX11_pigeons_53 : decode cX11_pigeons 53 = .ok (.iload 7, 2) := by decide +kernel
theorem dX11_pigeons_55 : decode cX11_pigeons 55 = .ok (.sipush 144, 3) := by decide +kernel
theorem dX11_pigeons_58 : decode cX11_pigeons 58 = .ok (.if_icmp .ge 31, 3) := by decide +kernel
theorem dX11_pigeons_61 : decode cX11_pigeons 61 = .ok (.iload 6, 2) := by decide +kernel
theorem dX11_pigeons_63 : decode cX11_pigeons 63 = .ok (.aload_n 0, 1) := by decide +kernel
theorem dX11_pigeons_64 : decode cX11_pigeons 64 = .ok (.getfield 80, 3) := by decide +kernel
theorem dX11_pigeons_67 : decode cX11_pigeons 67 = .ok (.iload 7, 2) := by decide +kernel
theorem dX11_pigeons_69 : decode cX11_pigeons 69 = .ok (.iaload, 1) := by decide +kernel
theorem dX11_pigeons_70 : decode cX11_pigeons 70 = .ok (.iload 5, 2) := by decide +kernel
theorem dX11_pigeons_72 : decode cX11_pigeons 72 = .ok (.if_icmp .ne 7, 3) := by decide +kernel
theorem dX11_pigeons_75 : decode cX11_pigeons 75 = .ok (.iconst 1, 1) := by decide +kernel
theorem dX11_pigeons_76 : decode cX11_pigeons 76 = .ok (.goto 4, 3) := by decide +kernel
theorem dX11_pigeons_79 : decode cX11_pigeons 79 = .ok (.iconst 0, 1) := by decide +kernel
theorem dX11_pigeons_80 : decode cX11_pigeons 80 = .ok (.iadd, 1) := by decide +kernel
theorem dX11_pigeons_81 : decode cX11_pigeons 81 = .ok (.istore 6, 2) := by decide +kernel
theorem dX11_pigeons_83 : decode cX11_pigeons 83 = .ok (.iinc 7 1, 3) := by decide +kernel
theorem dX11_pigeons_86 : decode cX11_pigeons 86 = .ok (.goto (-33), 3) := by decide +kernel
theorem dX11_pigeons_89 : decode cX11_pigeons 89 = .ok (.iload_n 2, 1) := by decide +kernel
theorem dX11_pigeons_90 : decode cX11_pigeons 90 = .ok (.iload 6, 2) := by decide +kernel
theorem dX11_pigeons_92 : decode cX11_pigeons 92 = .ok (.ifCond .le 7, 3) := by decide +kernel
theorem dX11_pigeons_95 : decode cX11_pigeons 95 = .ok (.iconst 1, 1) := by decide +kernel
theorem dX11_pigeons_96 : decode cX11_pigeons 96 = .ok (.goto 4, 3) := by decide +kernel
theorem dX11_pigeons_99 : decode cX11_pigeons 99 = .ok (.iconst 0, 1) := by decide +kernel
theorem dX11_pigeons_100 : decode cX11_pigeons 100 = .ok (.iadd, 1) := by decide +kernel
theorem dX11_pigeons_101 : decode cX11_pigeons 101 = .ok (.istore_n 2, 1) := by decide +kernel
theorem dX11_pigeons_102 : decode cX11_pigeons 102 = .ok (.iload 6, 2) := by decide +kernel
theorem dX11_pigeons_104 : decode cX11_pigeons 104 = .ok (.iload_n 3, 1) := by decide +kernel
theorem dX11_pigeons_105 : decode cX11_pigeons 105 = .ok (.if_icmp .le 8, 3) := by decide +kernel
theorem dX11_pigeons_108 : decode cX11_pigeons 108 = .ok (.iload 6, 2) := by decide +kernel
theorem dX11_pigeons_110 : decode cX11_pigeons 110 = .ok (.goto 4, 3) := by decide +kernel
theorem dX11_pigeons_113 : decode cX11_pigeons 113 = .ok (.iload_n 3, 1) := by decide +kernel
theorem dX11_pigeons_114 : decode cX11_pigeons 114 = .ok (.istore_n 3, 1) := by decide +kernel
theorem dX11_pigeons_115 : decode cX11_pigeons 115 = .ok (.iload 4, 2) := by decide +kernel
theorem dX11_pigeons_117 : decode cX11_pigeons 117 = .ok (.aload_n 0, 1) := by decide +kernel
theorem dX11_pigeons_118 : decode cX11_pigeons 118 = .ok (.iload 5, 2) := by decide +kernel
theorem dX11_pigeons_120 : decode cX11_pigeons 120 = .ok (.invokevirtual 402, 3) := by decide +kernel
theorem dX11_pigeons_123 : decode cX11_pigeons 123 = .ok (.iconst 1, 1) := by decide +kernel
theorem dX11_pigeons_124 : decode cX11_pigeons 124 = .ok (.if_icmp .ne 7, 3) := by decide +kernel
theorem dX11_pigeons_127 : decode cX11_pigeons 127 = .ok (.iconst 1, 1) := by decide +kernel
theorem dX11_pigeons_128 : decode cX11_pigeons 128 = .ok (.goto 4, 3) := by decide +kernel
theorem dX11_pigeons_131 : decode cX11_pigeons 131 = .ok (.iconst 0, 1) := by decide +kernel
theorem dX11_pigeons_132 : decode cX11_pigeons 132 = .ok (.iadd, 1) := by decide +kernel
theorem dX11_pigeons_133 : decode cX11_pigeons 133 = .ok (.istore 4, 2) := by decide +kernel
theorem dX11_pigeons_135 : decode cX11_pigeons 135 = .ok (.iinc 5 1, 3) := by decide +kernel
theorem dX11_pigeons_138 : decode cX11_pigeons 138 = .ok (.goto (-113), 3) := by decide +kernel
theorem dX11_pigeons_141 : decode cX11_pigeons 141 = .ok (.iload_n 1, 1) := by decide +kernel
theorem dX11_pigeons_142 : decode cX11_pigeons 142 = .ok (.ifCond .ne 7, 3) := by decide +kernel
theorem dX11_pigeons_145 : decode cX11_pigeons 145 = .ok (.iload_n 2, 1) := by decide +kernel
theorem dX11_pigeons_146 : decode cX11_pigeons 146 = .ok (.goto 14, 3) := by decide +kernel
theorem dX11_pigeons_149 : decode cX11_pigeons 149 = .ok (.iload_n 1, 1) := by decide +kernel
theorem dX11_pigeons_150 : decode cX11_pigeons 150 = .ok (.iconst 1, 1) := by decide +kernel
theorem dX11_pigeons_151 : decode cX11_pigeons 151 = .ok (.if_icmp .ne 7, 3) := by decide +kernel
theorem dX11_pigeons_154 : decode cX11_pigeons 154 = .ok (.iload_n 3, 1) := by decide +kernel
theorem dX11_pigeons_155 : decode cX11_pigeons 155 = .ok (.goto 5, 3) := by decide +kernel
theorem dX11_pigeons_158 : decode cX11_pigeons 158 = .ok (.iload 4, 2) := by decide +kernel
theorem dX11_pigeons_160 : decode cX11_pigeons 160 = .ok (.ireturn, 1) := by decide +kernel
theorem dX11_bend_0 : decode cX11_bend 0 = .ok (.iload_n 2, 1) := by decide +kernel
theorem dX11_bend_1 : decode cX11_bend 1 = .ok (.iconst 2, 1) := by decide +kernel
theorem dX11_bend_2 : decode cX11_bend 2 = .ok (.if_icmp .ge 9, 3) := by decide +kernel
theorem dX11_bend_5 : decode cX11_bend 5 = .ok (.iload_n 0, 1) := by decide +kernel
theorem dX11_bend_6 : decode cX11_bend 6 = .ok (.iconst 2, 1) := by decide +kernel
theorem dX11_bend_7 : decode cX11_bend 7 = .ok (.isub, 1) := by decide +kernel
theorem dX11_bend_8 : decode cX11_bend 8 = .ok (.goto 17, 3) := by decide +kernel
theorem dX11_bend_11 : decode cX11_bend 11 = .ok (.iload_n 2, 1) := by decide +kernel
theorem dX11_bend_12 : decode cX11_bend 12 = .ok (.iconst 2, 1) := by decide +kernel
theorem dX11_bend_13 : decode cX11_bend 13 = .ok (.if_icmp .ne 9, 3) := by decide +kernel
theorem dX11_bend_16 : decode cX11_bend 16 = .ok (.iload_n 0, 1) := by decide +kernel
theorem dX11_bend_17 : decode cX11_bend 17 = .ok (.iconst 1, 1) := by decide +kernel
theorem dX11_bend_18 : decode cX11_bend 18 = .ok (.iadd, 1) := by decide +kernel
theorem dX11_bend_19 : decode cX11_bend 19 = .ok (.goto 6, 3) := by decide +kernel
theorem dX11_bend_22 : decode cX11_bend 22 = .ok (.iload_n 0, 1) := by decide +kernel
theorem dX11_bend_23 : decode cX11_bend 23 = .ok (.iconst 1, 1) := by decide +kernel
theorem dX11_bend_24 : decode cX11_bend 24 = .ok (.isub, 1) := by decide +kernel
theorem dX11_bend_25 : decode cX11_bend 25 = .ok (.istore_n 3, 1) := by decide +kernel
theorem dX11_bend_26 : decode cX11_bend 26 = .ok (.iload_n 2, 1) := by decide +kernel
theorem dX11_bend_27 : decode cX11_bend 27 = .ok (.ifCond .ne 9, 3) := by decide +kernel
theorem dX11_bend_30 : decode cX11_bend 30 = .ok (.iload_n 1, 1) := by decide +kernel
theorem dX11_bend_31 : decode cX11_bend 31 = .ok (.iconst 1, 1) := by decide +kernel
theorem dX11_bend_32 : decode cX11_bend 32 = .ok (.iadd, 1) := by decide +kernel
theorem dX11_bend_33 : decode cX11_bend 33 = .ok (.goto 17, 3) := by decide +kernel
theorem dX11_bend_36 : decode cX11_bend 36 = .ok (.iload_n 2, 1) := by decide +kernel
theorem dX11_bend_37 : decode cX11_bend 37 = .ok (.iconst 1, 1) := by decide +kernel
theorem dX11_bend_38 : decode cX11_bend 38 = .ok (.if_icmp .ne 9, 3) := by decide +kernel
theorem dX11_bend_41 : decode cX11_bend 41 = .ok (.iload_n 1, 1) := by decide +kernel
theorem dX11_bend_42 : decode cX11_bend 42 = .ok (.iconst 1, 1) := by decide +kernel
theorem dX11_bend_43 : decode cX11_bend 43 = .ok (.isub, 1) := by decide +kernel
theorem dX11_bend_44 : decode cX11_bend 44 = .ok (.goto 6, 3) := by decide +kernel
theorem dX11_bend_47 : decode cX11_bend 47 = .ok (.iload_n 1, 1) := by decide +kernel
theorem dX11_bend_48 : decode cX11_bend 48 = .ok (.iconst 2, 1) := by decide +kernel
theorem dX11_bend_49 : decode cX11_bend 49 = .ok (.isub, 1) := by decide +kernel
theorem dX11_bend_50 : decode cX11_bend 50 = .ok (.istore 4, 2) := by decide +kernel
theorem dX11_bend_52 : decode cX11_bend 52 = .ok (.iload_n 3, 1) := by decide +kernel
theorem dX11_bend_53 : decode cX11_bend 53 = .ok (.ifCond .lt 8, 3) := by decide +kernel
theorem dX11_bend_56 : decode cX11_bend 56 = .ok (.iload 4, 2) := by decide +kernel
theorem dX11_bend_58 : decode cX11_bend 58 = .ok (.ifCond .ge 7, 3) := by decide +kernel
theorem dX11_bend_61 : decode cX11_bend 61 = .ok (.iconst (-1), 1) := by decide +kernel
theorem dX11_bend_62 : decode cX11_bend 62 = .ok (.goto 10, 3) := by decide +kernel
theorem dX11_bend_65 : decode cX11_bend 65 = .ok (.bipush 61, 2) := by decide +kernel
theorem dX11_bend_67 : decode cX11_bend 67 = .ok (.iload 4, 2) := by decide +kernel
theorem dX11_bend_69 : decode cX11_bend 69 = .ok (.imul, 1) := by decide +kernel
theorem dX11_bend_70 : decode cX11_bend 70 = .ok (.iload_n 3, 1) := by decide +kernel
theorem dX11_bend_71 : decode cX11_bend 71 = .ok (.iadd, 1) := by decide +kernel
theorem dX11_bend_72 : decode cX11_bend 72 = .ok (.ireturn, 1) := by decide +kernel
theorem dX11_layValues_0 : decode cX11_layValues 0 = .ok (.iconst 0, 1) := by decide +kernel
theorem dX11_layValues_1 : decode cX11_layValues 1 = .ok (.istore_n 2, 1) := by decide +kernel
theorem dX11_layValues_2 : decode cX11_layValues 2 = .ok (.iload_n 2, 1) := by decide +kernel
theorem dX11_layValues_3 : decode cX11_layValues 3 = .ok (.iload_n 1, 1) := by decide +kernel
theorem dX11_layValues_4 : decode cX11_layValues 4 = .ok (.if_icmp .gt 110, 3) := by decide +kernel
theorem dX11_layValues_7 : decode cX11_layValues 7 = .ok (.iconst 0, 1) := by decide +kernel
theorem dX11_layValues_8 : decode cX11_layValues 8 = .ok (.istore_n 3, 1) := by decide +kernel
theorem dX11_layValues_9 : decode cX11_layValues 9 = .ok (.iload_n 3, 1) := by decide +kernel
theorem dX11_layValues_10 : decode cX11_layValues 10 = .ok (.iload_n 2, 1) := by decide +kernel
theorem dX11_layValues_11 : decode cX11_layValues 11 = .ok (.if_icmp .gt 97, 3) := by decide +kernel
theorem dX11_layValues_14 : decode cX11_layValues 14 = .ok (.iconst 0, 1) := by decide +kernel
theorem dX11_layValues_15 : decode cX11_layValues 15 = .ok (.istore 4, 2) := by decide +kernel
theorem dX11_layValues_17 : decode cX11_layValues 17 = .ok (.iconst 0, 1) := by decide +kernel
theorem dX11_layValues_18 : decode cX11_layValues 18 = .ok (.istore 5, 2) := by decide +kernel
theorem dX11_layValues_20 : decode cX11_layValues 20 = .ok (.iload 5, 2) := by decide +kernel
theorem dX11_layValues_22 : decode cX11_layValues 22 = .ok (.iconst 4, 1) := by decide +kernel
theorem dX11_layValues_23 : decode cX11_layValues 23 = .ok (.if_icmp .ge 44, 3) := by decide +kernel
theorem dX11_layValues_26 : decode cX11_layValues 26 = .ok (.iload_n 2, 1) := by decide +kernel
theorem dX11_layValues_27 : decode cX11_layValues 27 = .ok (.iload_n 3, 1) := by decide +kernel
theorem dX11_layValues_28 : decode cX11_layValues 28 = .ok (.isub, 1) := by decide +kernel
theorem dX11_layValues_29 : decode cX11_layValues 29 = .ok (.iload_n 3, 1) := by decide +kernel
theorem dX11_layValues_30 : decode cX11_layValues 30 = .ok (.iload 5, 2) := by decide +kernel
theorem dX11_layValues_32 : decode cX11_layValues 32 = .ok (.invokestatic 405, 3) := by decide +kernel
theorem dX11_layValues_35 : decode cX11_layValues 35 = .ok (.istore 6, 2) := by decide +kernel
theorem dX11_layValues_37 : decode cX11_layValues 37 = .ok (.iload 4, 2) := by decide +kernel
theorem dX11_layValues_39 : decode cX11_layValues 39 = .ok (.iload 6, 2) := by decide +kernel
theorem dX11_layValues_41 : decode cX11_layValues 41 = .ok (.iconst (-1), 1) := by decide +kernel
theorem dX11_layValues_42 : decode cX11_layValues 42 = .ok (.if_icmp .ne 7, 3) := by decide +kernel
theorem dX11_layValues_45 : decode cX11_layValues 45 = .ok (.iconst 0, 1) := by decide +kernel
theorem dX11_layValues_46 : decode cX11_layValues 46 = .ok (.goto 12, 3) := by decide +kernel
theorem dX11_layValues_49 : decode cX11_layValues 49 = .ok (.iconst 1, 1) := by decide +kernel
theorem dX11_layValues_50 : decode cX11_layValues 50 = .ok (.aload_n 0, 1) := by decide +kernel
theorem dX11_layValues_51 : decode cX11_layValues 51 = .ok (.getfield 83, 3) := by decide +kernel
theorem dX11_layValues_54 : decode cX11_layValues 54 = .ok (.iload 6, 2) := by decide +kernel
theorem dX11_layValues_56 : decode cX11_layValues 56 = .ok (.iaload, 1) := by decide +kernel
theorem dX11_layValues_57 : decode cX11_layValues 57 = .ok (.ishl, 1) := by decide +kernel
theorem dX11_layValues_58 : decode cX11_layValues 58 = .ok (.ior, 1) := by decide +kernel
theorem dX11_layValues_59 : decode cX11_layValues 59 = .ok (.istore 4, 2) := by decide +kernel
theorem dX11_layValues_61 : decode cX11_layValues 61 = .ok (.iinc 5 1, 3) := by decide +kernel
theorem dX11_layValues_64 : decode cX11_layValues 64 = .ok (.goto (-44), 3) := by decide +kernel
theorem dX11_layValues_67 : decode cX11_layValues 67 = .ok (.iconst 0, 1) := by decide +kernel
theorem dX11_layValues_68 : decode cX11_layValues 68 = .ok (.istore 5, 2) := by decide +kernel
theorem dX11_layValues_70 : decode cX11_layValues 70 = .ok (.iload 4, 2) := by decide +kernel
theorem dX11_layValues_72 : decode cX11_layValues 72 = .ok (.iload 5, 2) := by decide +kernel
theorem dX11_layValues_74 : decode cX11_layValues 74 = .ok (.ishr, 1) := by decide +kernel
theorem dX11_layValues_75 : decode cX11_layValues 75 = .ok (.iconst 1, 1) := by decide +kernel
theorem dX11_layValues_76 : decode cX11_layValues 76 = .ok (.iand, 1) := by decide +kernel
theorem dX11_layValues_77 : decode cX11_layValues 77 = .ok (.iconst 1, 1) := by decide +kernel
theorem dX11_layValues_78 : decode cX11_layValues 78 = .ok (.if_icmp .ne 9, 3) := by decide +kernel
theorem dX11_layValues_81 : decode cX11_layValues 81 = .ok (.iinc 5 1, 3) := by decide +kernel
theorem dX11_layValues_84 : decode cX11_layValues 84 = .ok (.goto (-14), 3) := by decide +kernel
theorem dX11_layValues_87 : decode cX11_layValues 87 = .ok (.aload_n 0, 1) := by decide +kernel
theorem dX11_layValues_88 : decode cX11_layValues 88 = .ok (.getfield 83, 3) := by decide +kernel
theorem dX11_layValues_91 : decode cX11_layValues 91 = .ok (.bipush 61, 2) := by decide +kernel
theorem dX11_layValues_93 : decode cX11_layValues 93 = .ok (.iload_n 3, 1) := by decide +kernel
theorem dX11_layValues_94 : decode cX11_layValues 94 = .ok (.imul, 1) := by decide +kernel
theorem dX11_layValues_95 : decode cX11_layValues 95 = .ok (.iload_n 2, 1) := by decide +kernel
theorem dX11_layValues_96 : decode cX11_layValues 96 = .ok (.iadd, 1) := by decide +kernel
theorem dX11_layValues_97 : decode cX11_layValues 97 = .ok (.iload_n 3, 1) := by decide +kernel
theorem dX11_layValues_98 : decode cX11_layValues 98 = .ok (.isub, 1) := by decide +kernel
theorem dX11_layValues_99 : decode cX11_layValues 99 = .ok (.iload 5, 2) := by decide +kernel
theorem dX11_layValues_101 : decode cX11_layValues 101 = .ok (.iastore, 1) := by decide +kernel
theorem dX11_layValues_102 : decode cX11_layValues 102 = .ok (.iinc 3 1, 3) := by decide +kernel
theorem dX11_layValues_105 : decode cX11_layValues 105 = .ok (.goto (-96), 3) := by decide +kernel
theorem dX11_layValues_108 : decode cX11_layValues 108 = .ok (.iinc 2 1, 3) := by decide +kernel
theorem dX11_layValues_111 : decode cX11_layValues 111 = .ok (.goto (-109), 3) := by decide +kernel
theorem dX11_layValues_114 : decode cX11_layValues 114 = .ok (.return_, 1) := by decide +kernel
theorem dX11_game_0 : decode cX11_game 0 = .ok (.iload_n 1, 1) := by decide +kernel
theorem dX11_game_1 : decode cX11_game 1 = .ok (.iconst 0, 1) := by decide +kernel
theorem dX11_game_2 : decode cX11_game 2 = .ok (.bipush 30, 2) := by decide +kernel
theorem dX11_game_4 : decode cX11_game 4 = .ok (.invokestatic 100, 3) := by decide +kernel
theorem dX11_game_7 : decode cX11_game 7 = .ok (.ifCond .eq 22, 3) := by decide +kernel
theorem dX11_game_10 : decode cX11_game 10 = .ok (.iload_n 2, 1) := by decide +kernel
theorem dX11_game_11 : decode cX11_game 11 = .ok (.iconst 0, 1) := by decide +kernel
theorem dX11_game_12 : decode cX11_game 12 = .ok (.bipush 30, 2) := by decide +kernel
theorem dX11_game_14 : decode cX11_game 14 = .ok (.invokestatic 100, 3) := by decide +kernel
theorem dX11_game_17 : decode cX11_game 17 = .ok (.ifCond .eq 12, 3) := by decide +kernel
theorem dX11_game_20 : decode cX11_game 20 = .ok (.iload_n 3, 1) := by decide +kernel
theorem dX11_game_21 : decode cX11_game 21 = .ok (.iconst 0, 1) := by decide +kernel
theorem dX11_game_22 : decode cX11_game 22 = .ok (.iconst 1, 1) := by decide +kernel
theorem dX11_game_23 : decode cX11_game 23 = .ok (.invokestatic 100, 3) := by decide +kernel
theorem dX11_game_26 : decode cX11_game 26 = .ok (.ifCond .ne 5, 3) := by decide +kernel
theorem dX11_game_29 : decode cX11_game 29 = .ok (.iconst (-1), 1) := by decide +kernel
theorem dX11_game_30 : decode cX11_game 30 = .ok (.ireturn, 1) := by decide +kernel
theorem dX11_game_31 : decode cX11_game 31 = .ok (.aload_n 0, 1) := by decide +kernel
theorem dX11_game_32 : decode cX11_game 32 = .ok (.iload_n 1, 1) := by decide +kernel
theorem dX11_game_33 : decode cX11_game 33 = .ok (.iload_n 2, 1) := by decide +kernel
theorem dX11_game_34 : decode cX11_game 34 = .ok (.iadd, 1) := by decide +kernel
theorem dX11_game_35 : decode cX11_game 35 = .ok (.invokevirtual 408, 3) := by decide +kernel
theorem dX11_game_38 : decode cX11_game 38 = .ok (.iload_n 3, 1) := by decide +kernel
theorem dX11_game_39 : decode cX11_game 39 = .ok (.ifCond .ne 15, 3) := by decide +kernel
theorem dX11_game_42 : decode cX11_game 42 = .ok (.aload_n 0, 1) := by decide +kernel
theorem dX11_game_43 : decode cX11_game 43 = .ok (.getfield 83, 3) := by decide +kernel
theorem dX11_game_46 : decode cX11_game 46 = .ok (.bipush 61, 2) := by decide +kernel
theorem dX11_game_48 : decode cX11_game 48 = .ok (.iload_n 2, 1) := by decide +kernel
theorem dX11_game_49 : decode cX11_game 49 = .ok (.imul, 1) := by decide +kernel
theorem dX11_game_50 : decode cX11_game 50 = .ok (.iload_n 1, 1) := by decide +kernel
theorem dX11_game_51 : decode cX11_game 51 = .ok (.iadd, 1) := by decide +kernel
theorem dX11_game_52 : decode cX11_game 52 = .ok (.iaload, 1) := by decide +kernel
theorem dX11_game_53 : decode cX11_game 53 = .ok (.ireturn, 1) := by decide +kernel
theorem dX11_game_54 : decode cX11_game 54 = .ok (.iconst (-1), 1) := by decide +kernel
theorem dX11_game_55 : decode cX11_game 55 = .ok (.istore 4, 2) := by decide +kernel
theorem dX11_game_57 : decode cX11_game 57 = .ok (.iconst 0, 1) := by decide +kernel
theorem dX11_game_58 : decode cX11_game 58 = .ok (.istore 5, 2) := by decide +kernel
theorem dX11_game_60 : decode cX11_game 60 = .ok (.iload 5, 2) := by decide +kernel
theorem dX11_game_62 : decode cX11_game 62 = .ok (.iconst 4, 1) := by decide +kernel
theorem dX11_game_63 : decode cX11_game 63 = .ok (.if_icmp .ge 51, 3) := by decide +kernel
theorem dX11_game_66 : decode cX11_game 66 = .ok (.iload_n 1, 1) := by decide +kernel
theorem dX11_game_67 : decode cX11_game 67 = .ok (.iload_n 2, 1) := by decide +kernel
theorem dX11_game_68 : decode cX11_game 68 = .ok (.iload 5, 2) := by decide +kernel
theorem dX11_game_70 : decode cX11_game 70 = .ok (.invokestatic 405, 3) := by decide +kernel
theorem dX11_game_73 : decode cX11_game 73 = .ok (.istore 6, 2) := by decide +kernel
theorem dX11_game_75 : decode cX11_game 75 = .ok (.iload 6, 2) := by decide +kernel
theorem dX11_game_77 : decode cX11_game 77 = .ok (.iconst (-1), 1) := by decide +kernel
theorem dX11_game_78 : decode cX11_game 78 = .ok (.if_icmp .eq 30, 3) := by decide +kernel
theorem dX11_game_81 : decode cX11_game 81 = .ok (.aload_n 0, 1) := by decide +kernel
theorem dX11_game_82 : decode cX11_game 82 = .ok (.getfield 83, 3) := by decide +kernel
theorem dX11_game_85 : decode cX11_game 85 = .ok (.iload 6, 2) := by decide +kernel
theorem dX11_game_87 : decode cX11_game 87 = .ok (.iaload, 1) := by decide +kernel
theorem dX11_game_88 : decode cX11_game 88 = .ok (.ifCond .ne 20, 3) := by decide +kernel
theorem dX11_game_91 : decode cX11_game 91 = .ok (.iload 4, 2) := by decide +kernel
theorem dX11_game_93 : decode cX11_game 93 = .ok (.iconst (-1), 1) := by decide +kernel
theorem dX11_game_94 : decode cX11_game 94 = .ok (.if_icmp .eq 10, 3) := by decide +kernel
theorem dX11_game_97 : decode cX11_game 97 = .ok (.iload 6, 2) := by decide +kernel
theorem dX11_game_99 : decode cX11_game 99 = .ok (.iload 4, 2) := by decide +kernel
theorem dX11_game_101 : decode cX11_game 101 = .ok (.if_icmp .ge 7, 3) := by decide +kernel
theorem dX11_game_104 : decode cX11_game 104 = .ok (.iload 6, 2) := by decide +kernel
theorem dX11_game_106 : decode cX11_game 106 = .ok (.istore 4, 2) := by decide +kernel
theorem dX11_game_108 : decode cX11_game 108 = .ok (.iinc 5 1, 3) := by decide +kernel
theorem dX11_game_111 : decode cX11_game 111 = .ok (.goto (-51), 3) := by decide +kernel
theorem dX11_game_114 : decode cX11_game 114 = .ok (.iload 4, 2) := by decide +kernel
theorem dX11_game_116 : decode cX11_game 116 = .ok (.ireturn, 1) := by decide +kernel
theorem dJ11_isValidCodePoint_9a6ad_0 : decode cJ11_isValidCodePoint_9a6ad 0 = .ok (.iload_n 0, 1) := by decide +kernel
theorem dJ11_isValidCodePoint_9a6ad_1 : decode cJ11_isValidCodePoint_9a6ad 1 = .ok (.bipush 16, 2) := by decide +kernel
theorem dJ11_isValidCodePoint_9a6ad_3 : decode cJ11_isValidCodePoint_9a6ad 3 = .ok (.iushr, 1) := by decide +kernel
theorem dJ11_isValidCodePoint_9a6ad_4 : decode cJ11_isValidCodePoint_9a6ad 4 = .ok (.istore_n 1, 1) := by decide +kernel
theorem dJ11_isValidCodePoint_9a6ad_5 : decode cJ11_isValidCodePoint_9a6ad 5 = .ok (.iload_n 1, 1) := by decide +kernel
theorem dJ11_isValidCodePoint_9a6ad_6 : decode cJ11_isValidCodePoint_9a6ad 6 = .ok (.bipush 17, 2) := by decide +kernel
theorem dJ11_isValidCodePoint_9a6ad_8 : decode cJ11_isValidCodePoint_9a6ad 8 = .ok (.if_icmp .ge 7, 3) := by decide +kernel
theorem dJ11_isValidCodePoint_9a6ad_11 : decode cJ11_isValidCodePoint_9a6ad 11 = .ok (.iconst 1, 1) := by decide +kernel
theorem dJ11_isValidCodePoint_9a6ad_12 : decode cJ11_isValidCodePoint_9a6ad 12 = .ok (.goto 4, 3) := by decide +kernel
theorem dJ11_isValidCodePoint_9a6ad_15 : decode cJ11_isValidCodePoint_9a6ad 15 = .ok (.iconst 0, 1) := by decide +kernel
theorem dJ11_isValidCodePoint_9a6ad_16 : decode cJ11_isValidCodePoint_9a6ad 16 = .ok (.ireturn, 1) := by decide +kernel
theorem dJ11_highSurrogate_5068e_0 : decode cJ11_highSurrogate_5068e 0 = .ok (.iload_n 0, 1) := by decide +kernel
theorem dJ11_highSurrogate_5068e_1 : decode cJ11_highSurrogate_5068e 1 = .ok (.bipush 10, 2) := by decide +kernel
theorem dJ11_highSurrogate_5068e_3 : decode cJ11_highSurrogate_5068e 3 = .ok (.iushr, 1) := by decide +kernel
theorem dJ11_highSurrogate_5068e_4 : decode cJ11_highSurrogate_5068e 4 = .ok (.ldc 110, 2) := by decide +kernel
theorem dJ11_highSurrogate_5068e_6 : decode cJ11_highSurrogate_5068e 6 = .ok (.iadd, 1) := by decide +kernel
theorem dJ11_highSurrogate_5068e_7 : decode cJ11_highSurrogate_5068e 7 = .ok (.i2c, 1) := by decide +kernel
theorem dJ11_highSurrogate_5068e_8 : decode cJ11_highSurrogate_5068e 8 = .ok (.ireturn, 1) := by decide +kernel
theorem dJ11_lowSurrogate_5068e_0 : decode cJ11_lowSurrogate_5068e 0 = .ok (.iload_n 0, 1) := by decide +kernel
theorem dJ11_lowSurrogate_5068e_1 : decode cJ11_lowSurrogate_5068e 1 = .ok (.sipush 1023, 3) := by decide +kernel
theorem dJ11_lowSurrogate_5068e_4 : decode cJ11_lowSurrogate_5068e 4 = .ok (.iand, 1) := by decide +kernel
theorem dJ11_lowSurrogate_5068e_5 : decode cJ11_lowSurrogate_5068e 5 = .ok (.ldc 76, 2) := by decide +kernel
theorem dJ11_lowSurrogate_5068e_7 : decode cJ11_lowSurrogate_5068e 7 = .ok (.iadd, 1) := by decide +kernel
theorem dJ11_lowSurrogate_5068e_8 : decode cJ11_lowSurrogate_5068e 8 = .ok (.i2c, 1) := by decide +kernel
theorem dJ11_lowSurrogate_5068e_9 : decode cJ11_lowSurrogate_5068e 9 = .ok (.ireturn, 1) := by decide +kernel
theorem dJ6_bitCount_0f7a4_0 : decode cJ6_bitCount_0f7a4 0 = .ok (.iload_n 0, 1) := by decide +kernel
theorem dJ6_bitCount_0f7a4_1 : decode cJ6_bitCount_0f7a4 1 = .ok (.iload_n 0, 1) := by decide +kernel
theorem dJ6_bitCount_0f7a4_2 : decode cJ6_bitCount_0f7a4 2 = .ok (.iconst 1, 1) := by decide +kernel
theorem dJ6_bitCount_0f7a4_3 : decode cJ6_bitCount_0f7a4 3 = .ok (.iushr, 1) := by decide +kernel
theorem dJ6_bitCount_0f7a4_4 : decode cJ6_bitCount_0f7a4 4 = .ok (.ldc_w 265, 3) := by decide +kernel
theorem dJ6_bitCount_0f7a4_7 : decode cJ6_bitCount_0f7a4 7 = .ok (.iand, 1) := by decide +kernel
theorem dJ6_bitCount_0f7a4_8 : decode cJ6_bitCount_0f7a4 8 = .ok (.isub, 1) := by decide +kernel
theorem dJ6_bitCount_0f7a4_9 : decode cJ6_bitCount_0f7a4 9 = .ok (.istore_n 0, 1) := by decide +kernel
theorem dJ6_bitCount_0f7a4_10 : decode cJ6_bitCount_0f7a4 10 = .ok (.iload_n 0, 1) := by decide +kernel
theorem dJ6_bitCount_0f7a4_11 : decode cJ6_bitCount_0f7a4 11 = .ok (.ldc_w 266, 3) := by decide +kernel
theorem dJ6_bitCount_0f7a4_14 : decode cJ6_bitCount_0f7a4 14 = .ok (.iand, 1) := by decide +kernel
theorem dJ6_bitCount_0f7a4_15 : decode cJ6_bitCount_0f7a4 15 = .ok (.iload_n 0, 1) := by decide +kernel
theorem dJ6_bitCount_0f7a4_16 : decode cJ6_bitCount_0f7a4 16 = .ok (.iconst 2, 1) := by decide +kernel
theorem dJ6_bitCount_0f7a4_17 : decode cJ6_bitCount_0f7a4 17 = .ok (.iushr, 1) := by decide +kernel
theorem dJ6_bitCount_0f7a4_18 : decode cJ6_bitCount_0f7a4 18 = .ok (.ldc_w 266, 3) := by decide +kernel
theorem dJ6_bitCount_0f7a4_21 : decode cJ6_bitCount_0f7a4 21 = .ok (.iand, 1) := by decide +kernel
theorem dJ6_bitCount_0f7a4_22 : decode cJ6_bitCount_0f7a4 22 = .ok (.iadd, 1) := by decide +kernel
theorem dJ6_bitCount_0f7a4_23 : decode cJ6_bitCount_0f7a4 23 = .ok (.istore_n 0, 1) := by decide +kernel
theorem dJ6_bitCount_0f7a4_24 : decode cJ6_bitCount_0f7a4 24 = .ok (.iload_n 0, 1) := by decide +kernel
theorem dJ6_bitCount_0f7a4_25 : decode cJ6_bitCount_0f7a4 25 = .ok (.iload_n 0, 1) := by decide +kernel
theorem dJ6_bitCount_0f7a4_26 : decode cJ6_bitCount_0f7a4 26 = .ok (.iconst 4, 1) := by decide +kernel
theorem dJ6_bitCount_0f7a4_27 : decode cJ6_bitCount_0f7a4 27 = .ok (.iushr, 1) := by decide +kernel
theorem dJ6_bitCount_0f7a4_28 : decode cJ6_bitCount_0f7a4 28 = .ok (.iadd, 1) := by decide +kernel
theorem dJ6_bitCount_0f7a4_29 : decode cJ6_bitCount_0f7a4 29 = .ok (.ldc_w 267, 3) := by decide +kernel
theorem dJ6_bitCount_0f7a4_32 : decode cJ6_bitCount_0f7a4 32 = .ok (.iand, 1) := by decide +kernel
theorem dJ6_bitCount_0f7a4_33 : decode cJ6_bitCount_0f7a4 33 = .ok (.istore_n 0, 1) := by decide +kernel
theorem dJ6_bitCount_0f7a4_34 : decode cJ6_bitCount_0f7a4 34 = .ok (.iload_n 0, 1) := by decide +kernel
theorem dJ6_bitCount_0f7a4_35 : decode cJ6_bitCount_0f7a4 35 = .ok (.iload_n 0, 1) := by decide +kernel
theorem dJ6_bitCount_0f7a4_36 : decode cJ6_bitCount_0f7a4 36 = .ok (.bipush 8, 2) := by decide +kernel
theorem dJ6_bitCount_0f7a4_38 : decode cJ6_bitCount_0f7a4 38 = .ok (.iushr, 1) := by decide +kernel
theorem dJ6_bitCount_0f7a4_39 : decode cJ6_bitCount_0f7a4 39 = .ok (.iadd, 1) := by decide +kernel
theorem dJ6_bitCount_0f7a4_40 : decode cJ6_bitCount_0f7a4 40 = .ok (.istore_n 0, 1) := by decide +kernel
theorem dJ6_bitCount_0f7a4_41 : decode cJ6_bitCount_0f7a4 41 = .ok (.iload_n 0, 1) := by decide +kernel
theorem dJ6_bitCount_0f7a4_42 : decode cJ6_bitCount_0f7a4 42 = .ok (.iload_n 0, 1) := by decide +kernel
theorem dJ6_bitCount_0f7a4_43 : decode cJ6_bitCount_0f7a4 43 = .ok (.bipush 16, 2) := by decide +kernel
theorem dJ6_bitCount_0f7a4_45 : decode cJ6_bitCount_0f7a4 45 = .ok (.iushr, 1) := by decide +kernel
theorem dJ6_bitCount_0f7a4_46 : decode cJ6_bitCount_0f7a4 46 = .ok (.iadd, 1) := by decide +kernel
theorem dJ6_bitCount_0f7a4_47 : decode cJ6_bitCount_0f7a4 47 = .ok (.istore_n 0, 1) := by decide +kernel
theorem dJ6_bitCount_0f7a4_48 : decode cJ6_bitCount_0f7a4 48 = .ok (.iload_n 0, 1) := by decide +kernel
theorem dJ6_bitCount_0f7a4_49 : decode cJ6_bitCount_0f7a4 49 = .ok (.bipush 63, 2) := by decide +kernel
theorem dJ6_bitCount_0f7a4_51 : decode cJ6_bitCount_0f7a4 51 = .ok (.iand, 1) := by decide +kernel
theorem dJ6_bitCount_0f7a4_52 : decode cJ6_bitCount_0f7a4 52 = .ok (.ireturn, 1) := by decide +kernel
theorem dJ9_floorDiv_7cf53_0 : decode cJ9_floorDiv_7cf53 0 = .ok (.iload_n 0, 1) := by decide +kernel
theorem dJ9_floorDiv_7cf53_1 : decode cJ9_floorDiv_7cf53 1 = .ok (.iload_n 1, 1) := by decide +kernel
theorem dJ9_floorDiv_7cf53_2 : decode cJ9_floorDiv_7cf53 2 = .ok (.idiv, 1) := by decide +kernel
theorem dJ9_floorDiv_7cf53_3 : decode cJ9_floorDiv_7cf53 3 = .ok (.istore_n 2, 1) := by decide +kernel
theorem dJ9_floorDiv_7cf53_4 : decode cJ9_floorDiv_7cf53 4 = .ok (.iload_n 0, 1) := by decide +kernel
theorem dJ9_floorDiv_7cf53_5 : decode cJ9_floorDiv_7cf53 5 = .ok (.iload_n 1, 1) := by decide +kernel
theorem dJ9_floorDiv_7cf53_6 : decode cJ9_floorDiv_7cf53 6 = .ok (.ixor, 1) := by decide +kernel
theorem dJ9_floorDiv_7cf53_7 : decode cJ9_floorDiv_7cf53 7 = .ok (.ifCond .ge 14, 3) := by decide +kernel
theorem dJ9_floorDiv_7cf53_10 : decode cJ9_floorDiv_7cf53 10 = .ok (.iload_n 2, 1) := by decide +kernel
theorem dJ9_floorDiv_7cf53_11 : decode cJ9_floorDiv_7cf53 11 = .ok (.iload_n 1, 1) := by decide +kernel
theorem dJ9_floorDiv_7cf53_12 : decode cJ9_floorDiv_7cf53 12 = .ok (.imul, 1) := by decide +kernel
theorem dJ9_floorDiv_7cf53_13 : decode cJ9_floorDiv_7cf53 13 = .ok (.iload_n 0, 1) := by decide +kernel
theorem dJ9_floorDiv_7cf53_14 : decode cJ9_floorDiv_7cf53 14 = .ok (.if_icmp .eq 7, 3) := by decide +kernel
theorem dJ9_floorDiv_7cf53_17 : decode cJ9_floorDiv_7cf53 17 = .ok (.iload_n 2, 1) := by decide +kernel
theorem dJ9_floorDiv_7cf53_18 : decode cJ9_floorDiv_7cf53 18 = .ok (.iconst 1, 1) := by decide +kernel
theorem dJ9_floorDiv_7cf53_19 : decode cJ9_floorDiv_7cf53 19 = .ok (.isub, 1) := by decide +kernel
theorem dJ9_floorDiv_7cf53_20 : decode cJ9_floorDiv_7cf53 20 = .ok (.ireturn, 1) := by decide +kernel
theorem dJ9_floorDiv_7cf53_21 : decode cJ9_floorDiv_7cf53 21 = .ok (.iload_n 2, 1) := by decide +kernel
theorem dJ9_floorDiv_7cf53_22 : decode cJ9_floorDiv_7cf53 22 = .ok (.ireturn, 1) := by decide +kernel
theorem dJ9_abs_0f7a4_0 : decode cJ9_abs_0f7a4 0 = .ok (.iload_n 0, 1) := by decide +kernel
theorem dJ9_abs_0f7a4_1 : decode cJ9_abs_0f7a4 1 = .ok (.ifCond .ge 8, 3) := by decide +kernel
theorem dJ9_abs_0f7a4_4 : decode cJ9_abs_0f7a4 4 = .ok (.iload_n 0, 1) := by decide +kernel
theorem dJ9_abs_0f7a4_5 : decode cJ9_abs_0f7a4 5 = .ok (.ineg, 1) := by decide +kernel
theorem dJ9_abs_0f7a4_6 : decode cJ9_abs_0f7a4 6 = .ok (.goto 4, 3) := by decide +kernel
theorem dJ9_abs_0f7a4_9 : decode cJ9_abs_0f7a4 9 = .ok (.iload_n 0, 1) := by decide +kernel
theorem dJ9_abs_0f7a4_10 : decode cJ9_abs_0f7a4 10 = .ok (.ireturn, 1) := by decide +kernel
theorem dJ9_max_7cf53_0 : decode cJ9_max_7cf53 0 = .ok (.iload_n 0, 1) := by decide +kernel
theorem dJ9_max_7cf53_1 : decode cJ9_max_7cf53 1 = .ok (.iload_n 1, 1) := by decide +kernel
theorem dJ9_max_7cf53_2 : decode cJ9_max_7cf53 2 = .ok (.if_icmp .lt 7, 3) := by decide +kernel
theorem dJ9_max_7cf53_5 : decode cJ9_max_7cf53 5 = .ok (.iload_n 0, 1) := by decide +kernel
theorem dJ9_max_7cf53_6 : decode cJ9_max_7cf53 6 = .ok (.goto 4, 3) := by decide +kernel
theorem dJ9_max_7cf53_9 : decode cJ9_max_7cf53 9 = .ok (.iload_n 1, 1) := by decide +kernel
theorem dJ9_max_7cf53_10 : decode cJ9_max_7cf53 10 = .ok (.ireturn, 1) := by decide +kernel
theorem dJ9_min_7cf53_0 : decode cJ9_min_7cf53 0 = .ok (.iload_n 0, 1) := by decide +kernel
theorem dJ9_min_7cf53_1 : decode cJ9_min_7cf53 1 = .ok (.iload_n 1, 1) := by decide +kernel
theorem dJ9_min_7cf53_2 : decode cJ9_min_7cf53 2 = .ok (.if_icmp .gt 7, 3) := by decide +kernel
theorem dJ9_min_7cf53_5 : decode cJ9_min_7cf53 5 = .ok (.iload_n 0, 1) := by decide +kernel
theorem dJ9_min_7cf53_6 : decode cJ9_min_7cf53 6 = .ok (.goto 4, 3) := by decide +kernel
theorem dJ9_min_7cf53_9 : decode cJ9_min_7cf53 9 = .ok (.iload_n 1, 1) := by decide +kernel
theorem dJ9_min_7cf53_10 : decode cJ9_min_7cf53 10 = .ok (.ireturn, 1) := by decide +kernel
theorem dJ0_length_8abf5_0 : decode cJ0_length_8abf5 0 = .ok (.aload_n 0, 1) := by decide +kernel
theorem dJ0_length_8abf5_1 : decode cJ0_length_8abf5 1 = .ok (.getfield 9, 3) := by decide +kernel
theorem dJ0_length_8abf5_4 : decode cJ0_length_8abf5 4 = .ok (.arraylength, 1) := by decide +kernel
theorem dJ0_length_8abf5_5 : decode cJ0_length_8abf5 5 = .ok (.aload_n 0, 1) := by decide +kernel
theorem dJ0_length_8abf5_6 : decode cJ0_length_8abf5 6 = .ok (.invokevirtual 335, 3) := by decide +kernel
theorem dJ0_length_8abf5_9 : decode cJ0_length_8abf5 9 = .ok (.ishr, 1) := by decide +kernel
theorem dJ0_length_8abf5_10 : decode cJ0_length_8abf5 10 = .ok (.ireturn, 1) := by decide +kernel
theorem dJ0_charAt_5068e_0 : decode cJ0_charAt_5068e 0 = .ok (.aload_n 0, 1) := by decide +kernel
theorem dJ0_charAt_5068e_1 : decode cJ0_charAt_5068e 1 = .ok (.invokevirtual 492, 3) := by decide +kernel
theorem dJ0_charAt_5068e_4 : decode cJ0_charAt_5068e 4 = .ok (.ifCond .eq 12, 3) := by decide +kernel
theorem dJ0_charAt_5068e_7 : decode cJ0_charAt_5068e 7 = .ok (.aload_n 0, 1) := by decide +kernel
theorem dJ0_charAt_5068e_8 : decode cJ0_charAt_5068e 8 = .ok (.getfield 9, 3) := by decide +kernel
theorem dJ0_charAt_5068e_11 : decode cJ0_charAt_5068e 11 = .ok (.iload_n 1, 1) := by decide +kernel
theorem dJ0_charAt_5068e_12 : decode cJ0_charAt_5068e 12 = .ok (.invokestatic 495, 3) := by decide +kernel
theorem dJ0_charAt_5068e_15 : decode cJ0_charAt_5068e 15 = .ok (.ireturn, 1) := by decide +kernel
theorem dJ0_charAt_5068e_16 : decode cJ0_charAt_5068e 16 = .ok (.aload_n 0, 1) := by decide +kernel
theorem dJ0_charAt_5068e_17 : decode cJ0_charAt_5068e 17 = .ok (.getfield 9, 3) := by decide +kernel
theorem dJ0_charAt_5068e_20 : decode cJ0_charAt_5068e 20 = .ok (.iload_n 1, 1) := by decide +kernel
theorem dJ0_charAt_5068e_21 : decode cJ0_charAt_5068e 21 = .ok (.invokestatic 498, 3) := by decide +kernel
theorem dJ0_charAt_5068e_24 : decode cJ0_charAt_5068e 24 = .ok (.ireturn, 1) := by decide +kernel
theorem dJ0_indexOf_0f7a4_0 : decode cJ0_indexOf_0f7a4 0 = .ok (.aload_n 0, 1) := by decide +kernel
theorem dJ0_indexOf_0f7a4_1 : decode cJ0_indexOf_0f7a4 1 = .ok (.iload_n 1, 1) := by decide +kernel
theorem dJ0_indexOf_0f7a4_2 : decode cJ0_indexOf_0f7a4 2 = .ok (.iconst 0, 1) := by decide +kernel
theorem dJ0_indexOf_0f7a4_3 : decode cJ0_indexOf_0f7a4 3 = .ok (.invokevirtual 633, 3) := by decide +kernel
theorem dJ0_indexOf_0f7a4_6 : decode cJ0_indexOf_0f7a4 6 = .ok (.ireturn, 1) := by decide +kernel
theorem dJ0_indexOf_7cf53_0 : decode cJ0_indexOf_7cf53 0 = .ok (.aload_n 0, 1) := by decide +kernel
theorem dJ0_indexOf_7cf53_1 : decode cJ0_indexOf_7cf53 1 = .ok (.invokevirtual 492, 3) := by decide +kernel
theorem dJ0_indexOf_7cf53_4 : decode cJ0_indexOf_7cf53 4 = .ok (.ifCond .eq 19, 3) := by decide +kernel
theorem dJ0_indexOf_7cf53_7 : decode cJ0_indexOf_7cf53 7 = .ok (.aload_n 0, 1) := by decide +kernel
theorem dJ0_indexOf_7cf53_8 : decode cJ0_indexOf_7cf53 8 = .ok (.getfield 9, 3) := by decide +kernel
theorem dJ0_indexOf_7cf53_11 : decode cJ0_indexOf_7cf53 11 = .ok (.iload_n 1, 1) := by decide +kernel
theorem dJ0_indexOf_7cf53_12 : decode cJ0_indexOf_7cf53 12 = .ok (.iload_n 2, 1) := by decide +kernel
theorem dJ0_indexOf_7cf53_13 : decode cJ0_indexOf_7cf53 13 = .ok (.aload_n 0, 1) := by decide +kernel
theorem dJ0_indexOf_7cf53_14 : decode cJ0_indexOf_7cf53 14 = .ok (.invokevirtual 505, 3) := by decide +kernel
theorem dJ0_indexOf_7cf53_17 : decode cJ0_indexOf_7cf53 17 = .ok (.invokestatic 637, 3) := by decide +kernel
theorem dJ0_indexOf_7cf53_20 : decode cJ0_indexOf_7cf53 20 = .ok (.goto 16, 3) := by decide +kernel
theorem dJ0_indexOf_7cf53_23 : decode cJ0_indexOf_7cf53 23 = .ok (.aload_n 0, 1) := by decide +kernel
theorem dJ0_indexOf_7cf53_24 : decode cJ0_indexOf_7cf53 24 = .ok (.getfield 9, 3) := by decide +kernel
theorem dJ0_indexOf_7cf53_27 : decode cJ0_indexOf_7cf53 27 = .ok (.iload_n 1, 1) := by decide +kernel
theorem dJ0_indexOf_7cf53_28 : decode cJ0_indexOf_7cf53 28 = .ok (.iload_n 2, 1) := by decide +kernel
theorem dJ0_indexOf_7cf53_29 : decode cJ0_indexOf_7cf53 29 = .ok (.aload_n 0, 1) := by decide +kernel
theorem dJ0_indexOf_7cf53_30 : decode cJ0_indexOf_7cf53 30 = .ok (.invokevirtual 505, 3) := by decide +kernel
theorem dJ0_indexOf_7cf53_33 : decode cJ0_indexOf_7cf53 33 = .ok (.invokestatic 640, 3) := by decide +kernel
theorem dJ0_indexOf_7cf53_36 : decode cJ0_indexOf_7cf53 36 = .ok (.ireturn, 1) := by decide +kernel
theorem dJ0_coder_7d493_0 : decode cJ0_coder_7d493 0 = .ok (.getstatic 38, 3) := by decide +kernel
theorem dJ0_coder_7d493_3 : decode cJ0_coder_7d493 3 = .ok (.ifCond .eq 10, 3) := by decide +kernel
theorem dJ0_coder_7d493_6 : decode cJ0_coder_7d493 6 = .ok (.aload_n 0, 1) := by decide +kernel
theorem dJ0_coder_7d493_7 : decode cJ0_coder_7d493 7 = .ok (.getfield 15, 3) := by decide +kernel
theorem dJ0_coder_7d493_10 : decode cJ0_coder_7d493 10 = .ok (.goto 4, 3) := by decide +kernel
theorem dJ0_coder_7d493_13 : decode cJ0_coder_7d493 13 = .ok (.iconst 1, 1) := by decide +kernel
theorem dJ0_coder_7d493_14 : decode cJ0_coder_7d493 14 = .ok (.ireturn, 1) := by decide +kernel
theorem dJ0_isLatin1_aae02_0 : decode cJ0_isLatin1_aae02 0 = .ok (.getstatic 38, 3) := by decide +kernel
theorem dJ0_isLatin1_aae02_3 : decode cJ0_isLatin1_aae02 3 = .ok (.ifCond .eq 14, 3) := by decide +kernel
theorem dJ0_isLatin1_aae02_6 : decode cJ0_isLatin1_aae02 6 = .ok (.aload_n 0, 1) := by decide +kernel
theorem dJ0_isLatin1_aae02_7 : decode cJ0_isLatin1_aae02 7 = .ok (.getfield 15, 3) := by decide +kernel
theorem dJ0_isLatin1_aae02_10 : decode cJ0_isLatin1_aae02 10 = .ok (.ifCond .ne 7, 3) := by decide +kernel
theorem dJ0_isLatin1_aae02_13 : decode cJ0_isLatin1_aae02 13 = .ok (.iconst 1, 1) := by decide +kernel
theorem dJ0_isLatin1_aae02_14 : decode cJ0_isLatin1_aae02 14 = .ok (.goto 4, 3) := by decide +kernel
theorem dJ0_isLatin1_aae02_17 : decode cJ0_isLatin1_aae02 17 = .ok (.iconst 0, 1) := by decide +kernel
theorem dJ0_isLatin1_aae02_18 : decode cJ0_isLatin1_aae02 18 = .ok (.ireturn, 1) := by decide +kernel
theorem dJ0_checkIndex_df160_0 : decode cJ0_checkIndex_df160 0 = .ok (.iload_n 0, 1) := by decide +kernel
theorem dJ0_checkIndex_df160_1 : decode cJ0_checkIndex_df160 1 = .ok (.iload_n 1, 1) := by decide +kernel
theorem dJ0_checkIndex_df160_2 : decode cJ0_checkIndex_df160 2 = .ok (.getstatic 1053, 3) := by decide +kernel
theorem dJ0_checkIndex_df160_5 : decode cJ0_checkIndex_df160 5 = .ok (.invokestatic 1059, 3) := by decide +kernel
theorem dJ0_checkIndex_df160_8 : decode cJ0_checkIndex_df160 8 = .ok (.pop, 1) := by decide +kernel
theorem dJ0_checkIndex_df160_9 : decode cJ0_checkIndex_df160 9 = .ok (.return_, 1) := by decide +kernel
theorem dJ0_checkBoundsBeginEnd_23922_0 : decode cJ0_checkBoundsBeginEnd_23922 0 = .ok (.iload_n 0, 1) := by decide +kernel
theorem dJ0_checkBoundsBeginEnd_23922_1 : decode cJ0_checkBoundsBeginEnd_23922 1 = .ok (.iload_n 1, 1) := by decide +kernel
theorem dJ0_checkBoundsBeginEnd_23922_2 : decode cJ0_checkBoundsBeginEnd_23922 2 = .ok (.iload_n 2, 1) := by decide +kernel
theorem dJ0_checkBoundsBeginEnd_23922_3 : decode cJ0_checkBoundsBeginEnd_23922 3 = .ok (.getstatic 1053, 3) := by decide +kernel
theorem dJ0_checkBoundsBeginEnd_23922_6 : decode cJ0_checkBoundsBeginEnd_23922 6 = .ok (.invokestatic 1062, 3) := by decide +kernel
theorem dJ0_checkBoundsBeginEnd_23922_9 : decode cJ0_checkBoundsBeginEnd_23922 9 = .ok (.pop, 1) := by decide +kernel
theorem dJ0_checkBoundsBeginEnd_23922_10 : decode cJ0_checkBoundsBeginEnd_23922 10 = .ok (.return_, 1) := by decide +kernel
theorem dJ1_charAt_3b067_0 : decode cJ1_charAt_3b067 0 = .ok (.iload_n 1, 1) := by decide +kernel
theorem dJ1_charAt_3b067_1 : decode cJ1_charAt_3b067 1 = .ok (.aload_n 0, 1) := by decide +kernel
theorem dJ1_charAt_3b067_2 : decode cJ1_charAt_3b067 2 = .ok (.arraylength, 1) := by decide +kernel
theorem dJ1_charAt_3b067_3 : decode cJ1_charAt_3b067 3 = .ok (.invokestatic 9, 3) := by decide +kernel
theorem dJ1_charAt_3b067_6 : decode cJ1_charAt_3b067 6 = .ok (.aload_n 0, 1) := by decide +kernel
theorem dJ1_charAt_3b067_7 : decode cJ1_charAt_3b067 7 = .ok (.iload_n 1, 1) := by decide +kernel
theorem dJ1_charAt_3b067_8 : decode cJ1_charAt_3b067 8 = .ok (.baload, 1) := by decide +kernel
theorem dJ1_charAt_3b067_9 : decode cJ1_charAt_3b067 9 = .ok (.sipush 255, 3) := by decide +kernel
theorem dJ1_charAt_3b067_12 : decode cJ1_charAt_3b067 12 = .ok (.iand, 1) := by decide +kernel
theorem dJ1_charAt_3b067_13 : decode cJ1_charAt_3b067 13 = .ok (.i2c, 1) := by decide +kernel
theorem dJ1_charAt_3b067_14 : decode cJ1_charAt_3b067 14 = .ok (.ireturn, 1) := by decide +kernel
theorem dJ1_canEncode_9a6ad_0 : decode cJ1_canEncode_9a6ad 0 = .ok (.iload_n 0, 1) := by decide +kernel
theorem dJ1_canEncode_9a6ad_1 : decode cJ1_canEncode_9a6ad 1 = .ok (.ifCond .lt 14, 3) := by decide +kernel
theorem dJ1_canEncode_9a6ad_4 : decode cJ1_canEncode_9a6ad 4 = .ok (.iload_n 0, 1) := by decide +kernel
theorem dJ1_canEncode_9a6ad_5 : decode cJ1_canEncode_9a6ad 5 = .ok (.sipush 255, 3) := by decide +kernel
theorem dJ1_canEncode_9a6ad_8 : decode cJ1_canEncode_9a6ad 8 = .ok (.if_icmp .gt 7, 3) := by decide +kernel
theorem dJ1_canEncode_9a6ad_11 : decode cJ1_canEncode_9a6ad 11 = .ok (.iconst 1, 1) := by decide +kernel
theorem dJ1_canEncode_9a6ad_12 : decode cJ1_canEncode_9a6ad 12 = .ok (.goto 4, 3) := by decide +kernel
theorem dJ1_canEncode_9a6ad_15 : decode cJ1_canEncode_9a6ad 15 = .ok (.iconst 0, 1) := by decide +kernel
theorem dJ1_canEncode_9a6ad_16 : decode cJ1_canEncode_9a6ad 16 = .ok (.ireturn, 1) := by decide +kernel
theorem dJ1_indexOf_4cfef_0 : decode cJ1_indexOf_4cfef 0 = .ok (.iload_n 1, 1) := by decide +kernel
theorem dJ1_indexOf_4cfef_1 : decode cJ1_indexOf_4cfef 1 = .ok (.invokestatic 88, 3) := by decide +kernel
theorem dJ1_indexOf_4cfef_4 : decode cJ1_indexOf_4cfef 4 = .ok (.ifCond .ne 5, 3) := by decide +kernel
theorem dJ1_indexOf_4cfef_7 : decode cJ1_indexOf_4cfef 7 = .ok (.iconst (-1), 1) := by decide +kernel
theorem dJ1_indexOf_4cfef_8 : decode cJ1_indexOf_4cfef 8 = .ok (.ireturn, 1) := by decide +kernel
theorem dJ1_indexOf_4cfef_9 : decode cJ1_indexOf_4cfef 9 = .ok (.iload_n 2, 1) := by decide +kernel
theorem dJ1_indexOf_4cfef_10 : decode cJ1_indexOf_4cfef 10 = .ok (.iconst 0, 1) := by decide +kernel
theorem dJ1_indexOf_4cfef_11 : decode cJ1_indexOf_4cfef 11 = .ok (.invokestatic 92, 3) := by decide +kernel
theorem dJ1_indexOf_4cfef_14 : decode cJ1_indexOf_4cfef 14 = .ok (.istore_n 2, 1) := by decide +kernel
theorem dJ1_indexOf_4cfef_15 : decode cJ1_indexOf_4cfef 15 = .ok (.iload_n 3, 1) := by decide +kernel
theorem dJ1_indexOf_4cfef_16 : decode cJ1_indexOf_4cfef 16 = .ok (.aload_n 0, 1) := by decide +kernel
theorem dJ1_indexOf_4cfef_17 : decode cJ1_indexOf_4cfef 17 = .ok (.arraylength, 1) := by decide +kernel
theorem dJ1_indexOf_4cfef_18 : decode cJ1_indexOf_4cfef 18 = .ok (.invokestatic 38, 3) := by decide +kernel
theorem dJ1_indexOf_4cfef_21 : decode cJ1_indexOf_4cfef 21 = .ok (.istore_n 3, 1) := by decide +kernel
theorem dJ1_indexOf_4cfef_22 : decode cJ1_indexOf_4cfef 22 = .ok (.iload_n 2, 1) := by decide +kernel
theorem dJ1_indexOf_4cfef_23 : decode cJ1_indexOf_4cfef 23 = .ok (.iload_n 3, 1) := by decide +kernel
theorem dJ1_indexOf_4cfef_24 : decode cJ1_indexOf_4cfef 24 = .ok (.if_icmp .lt 5, 3) := by decide +kernel
theorem dJ1_indexOf_4cfef_27 : decode cJ1_indexOf_4cfef 27 = .ok (.iconst (-1), 1) := by decide +kernel
theorem dJ1_indexOf_4cfef_28 : decode cJ1_indexOf_4cfef 28 = .ok (.ireturn, 1) := by decide +kernel
theorem dJ1_indexOf_4cfef_29 : decode cJ1_indexOf_4cfef 29 = .ok (.aload_n 0, 1) := by decide +kernel
theorem dJ1_indexOf_4cfef_30 : decode cJ1_indexOf_4cfef 30 = .ok (.iload_n 1, 1) := by decide +kernel
theorem dJ1_indexOf_4cfef_31 : decode cJ1_indexOf_4cfef 31 = .ok (.iload_n 2, 1) := by decide +kernel
theorem dJ1_indexOf_4cfef_32 : decode cJ1_indexOf_4cfef 32 = .ok (.iload_n 3, 1) := by decide +kernel
theorem dJ1_indexOf_4cfef_33 : decode cJ1_indexOf_4cfef 33 = .ok (.invokestatic 95, 3) := by decide +kernel
theorem dJ1_indexOf_4cfef_36 : decode cJ1_indexOf_4cfef 36 = .ok (.ireturn, 1) := by decide +kernel
theorem dJ1_indexOfChar_4cfef_0 : decode cJ1_indexOfChar_4cfef 0 = .ok (.iload_n 1, 1) := by decide +kernel
theorem dJ1_indexOfChar_4cfef_1 : decode cJ1_indexOfChar_4cfef 1 = .ok (.i2b, 1) := by decide +kernel
theorem dJ1_indexOfChar_4cfef_2 : decode cJ1_indexOfChar_4cfef 2 = .ok (.istore 4, 2) := by decide +kernel
theorem dJ1_indexOfChar_4cfef_4 : decode cJ1_indexOfChar_4cfef 4 = .ok (.iload_n 2, 1) := by decide +kernel
theorem dJ1_indexOfChar_4cfef_5 : decode cJ1_indexOfChar_4cfef 5 = .ok (.istore 5, 2) := by decide +kernel
theorem dJ1_indexOfChar_4cfef_7 : decode cJ1_indexOfChar_4cfef 7 = .ok (.iload 5, 2) := by decide +kernel
theorem dJ1_indexOfChar_4cfef_9 : decode cJ1_indexOfChar_4cfef 9 = .ok (.iload_n 3, 1) := by decide +kernel
theorem dJ1_indexOfChar_4cfef_10 : decode cJ1_indexOfChar_4cfef 10 = .ok (.if_icmp .ge 21, 3) := by decide +kernel
theorem dJ1_indexOfChar_4cfef_13 : decode cJ1_indexOfChar_4cfef 13 = .ok (.aload_n 0, 1) := by decide +kernel
theorem dJ1_indexOfChar_4cfef_14 : decode cJ1_indexOfChar_4cfef 14 = .ok (.iload 5, 2) := by decide +kernel
theorem dJ1_indexOfChar_4cfef_16 : decode cJ1_indexOfChar_4cfef 16 = .ok (.baload, 1) := by decide +kernel
theorem dJ1_indexOfChar_4cfef_17 : decode cJ1_indexOfChar_4cfef 17 = .ok (.iload 4, 2) := by decide +kernel
theorem dJ1_indexOfChar_4cfef_19 : decode cJ1_indexOfChar_4cfef 19 = .ok (.if_icmp .ne 6, 3) := by decide +kernel
theorem dJ1_indexOfChar_4cfef_22 : decode cJ1_indexOfChar_4cfef 22 = .ok (.iload 5, 2) := by decide +kernel
theorem dJ1_indexOfChar_4cfef_24 : decode cJ1_indexOfChar_4cfef 24 = .ok (.ireturn, 1) := by decide +kernel
theorem dJ1_indexOfChar_4cfef_25 : decode cJ1_indexOfChar_4cfef 25 = .ok (.iinc 5 1, 3) := by decide +kernel
theorem dJ1_indexOfChar_4cfef_28 : decode cJ1_indexOfChar_4cfef 28 = .ok (.goto (-21), 3) := by decide +kernel
theorem dJ1_indexOfChar_4cfef_31 : decode cJ1_indexOfChar_4cfef 31 = .ok (.iconst (-1), 1) := by decide +kernel
theorem dJ1_indexOfChar_4cfef_32 : decode cJ1_indexOfChar_4cfef 32 = .ok (.ireturn, 1) := by decide +kernel
theorem dJ2_getChar_3b067_0 : decode cJ2_getChar_3b067 0 = .ok (.getstatic 44, 3) := by decide +kernel
theorem dJ2_getChar_3b067_3 : decode cJ2_getChar_3b067 3 = .ok (.ifCond .ne 25, 3) := by decide +kernel
theorem dJ2_getChar_3b067_6 : decode cJ2_getChar_3b067 6 = .ok (.iload_n 1, 1) := by decide +kernel
theorem dJ2_getChar_3b067_7 : decode cJ2_getChar_3b067 7 = .ok (.ifCond .lt 11, 3) := by decide +kernel
theorem dJ2_getChar_3b067_10 : decode cJ2_getChar_3b067 10 = .ok (.iload_n 1, 1) := by decide +kernel
theorem dJ2_getChar_3b067_11 : decode cJ2_getChar_3b067 11 = .ok (.aload_n 0, 1) := by decide +kernel
theorem dJ2_getChar_3b067_12 : decode cJ2_getChar_3b067 12 = .ok (.invokestatic 48, 3) := by decide +kernel
theorem dJ2_getChar_3b067_15 : decode cJ2_getChar_3b067 15 = .ok (.if_icmp .lt 13, 3) := by decide +kernel
theorem dJ2_getChar_3b067_18 : decode cJ2_getChar_3b067 18 = .ok (.new 52, 3) := by decide +kernel
theorem dJ2_getChar_3b067_21 : decode cJ2_getChar_3b067 21 = .ok (.dup, 1) := by decide +kernel
theorem dJ2_getChar_3b067_22 : decode cJ2_getChar_3b067 22 = .ok (.ldc 54, 2) := by decide +kernel
theorem dJ2_getChar_3b067_24 : decode cJ2_getChar_3b067 24 = .ok (.invokespecial 56, 3) := by decide +kernel
theorem dJ2_getChar_3b067_27 : decode cJ2_getChar_3b067 27 = .ok (.athrow, 1) := by decide +kernel
theorem dJ2_getChar_3b067_28 : decode cJ2_getChar_3b067 28 = .ok (.iload_n 1, 1) := by decide +kernel
theorem dJ2_getChar_3b067_29 : decode cJ2_getChar_3b067 29 = .ok (.iconst 1, 1) := by decide +kernel
theorem dJ2_getChar_3b067_30 : decode cJ2_getChar_3b067 30 = .ok (.ishl, 1) := by decide +kernel
theorem dJ2_getChar_3b067_31 : decode cJ2_getChar_3b067 31 = .ok (.istore_n 1, 1) := by decide +kernel
theorem dJ2_getChar_3b067_32 : decode cJ2_getChar_3b067 32 = .ok (.aload_n 0, 1) := by decide +kernel
theorem dJ2_getChar_3b067_33 : decode cJ2_getChar_3b067 33 = .ok (.iload_n 1, 1) := by decide +kernel
theorem dJ2_getChar_3b067_34 : decode cJ2_getChar_3b067 34 = .ok (.iinc 1 1, 3) := by decide +kernel
theorem dJ2_getChar_3b067_37 : decode cJ2_getChar_3b067 37 = .ok (.baload, 1) := by decide +kernel
theorem dJ2_getChar_3b067_38 : decode cJ2_getChar_3b067 38 = .ok (.sipush 255, 3) := by decide +kernel
theorem dJ2_getChar_3b067_41 : decode cJ2_getChar_3b067 41 = .ok (.iand, 1) := by decide +kernel
theorem dJ2_getChar_3b067_42 : decode cJ2_getChar_3b067 42 = .ok (.getstatic 59, 3) := by decide +kernel
theorem dJ2_getChar_3b067_45 : decode cJ2_getChar_3b067 45 = .ok (.ishl, 1) := by decide +kernel
theorem dJ2_getChar_3b067_46 : decode cJ2_getChar_3b067 46 = .ok (.aload_n 0, 1) := by decide +kernel
theorem dJ2_getChar_3b067_47 : decode cJ2_getChar_3b067 47 = .ok (.iload_n 1, 1) := by decide +kernel
theorem dJ2_getChar_3b067_48 : decode cJ2_getChar_3b067 48 = .ok (.baload, 1) := by decide +kernel
theorem dJ2_getChar_3b067_49 : decode cJ2_getChar_3b067 49 = .ok (.sipush 255, 3) := by decide +kernel
theorem dJ2_getChar_3b067_52 : decode cJ2_getChar_3b067 52 = .ok (.iand, 1) := by decide +kernel
theorem dJ2_getChar_3b067_53 : decode cJ2_getChar_3b067 53 = .ok (.getstatic 63, 3) := by decide +kernel
theorem dJ2_getChar_3b067_56 : decode cJ2_getChar_3b067 56 = .ok (.ishl, 1) := by decide +kernel
theorem dJ2_getChar_3b067_57 : decode cJ2_getChar_3b067 57 = .ok (.ior, 1) := by decide +kernel
theorem dJ2_getChar_3b067_58 : decode cJ2_getChar_3b067 58 = .ok (.i2c, 1) := by decide +kernel
theorem dJ2_getChar_3b067_59 : decode cJ2_getChar_3b067 59 = .ok (.ireturn, 1) := by decide +kernel
theorem dJ2_length_9d52b_0 : decode cJ2_length_9d52b 0 = .ok (.aload_n 0, 1) := by decide +kernel
theorem dJ2_length_9d52b_1 : decode cJ2_length_9d52b 1 = .ok (.arraylength, 1) := by decide +kernel
theorem dJ2_length_9d52b_2 : decode cJ2_length_9d52b 2 = .ok (.iconst 1, 1) := by decide +kernel
theorem dJ2_length_9d52b_3 : decode cJ2_length_9d52b 3 = .ok (.ishr, 1) := by decide +kernel
theorem dJ2_length_9d52b_4 : decode cJ2_length_9d52b 4 = .ok (.ireturn, 1) := by decide +kernel
theorem dJ2_indexOf_4cfef_0 : decode cJ2_indexOf_4cfef 0 = .ok (.iload_n 2, 1) := by decide +kernel
theorem dJ2_indexOf_4cfef_1 : decode cJ2_indexOf_4cfef 1 = .ok (.iconst 0, 1) := by decide +kernel
theorem dJ2_indexOf_4cfef_2 : decode cJ2_indexOf_4cfef 2 = .ok (.invokestatic 224, 3) := by decide +kernel
theorem dJ2_indexOf_4cfef_5 : decode cJ2_indexOf_4cfef 5 = .ok (.istore_n 2, 1) := by decide +kernel
theorem dJ2_indexOf_4cfef_6 : decode cJ2_indexOf_4cfef 6 = .ok (.iload_n 3, 1) := by decide +kernel
theorem dJ2_indexOf_4cfef_7 : decode cJ2_indexOf_4cfef 7 = .ok (.aload_n 0, 1) := by decide +kernel
theorem dJ2_indexOf_4cfef_8 : decode cJ2_indexOf_4cfef 8 = .ok (.arraylength, 1) := by decide +kernel
theorem dJ2_indexOf_4cfef_9 : decode cJ2_indexOf_4cfef 9 = .ok (.iconst 1, 1) := by decide +kernel
theorem dJ2_indexOf_4cfef_10 : decode cJ2_indexOf_4cfef 10 = .ok (.ishr, 1) := by decide +kernel
theorem dJ2_indexOf_4cfef_11 : decode cJ2_indexOf_4cfef 11 = .ok (.invokestatic 183, 3) := by decide +kernel
theorem dJ2_indexOf_4cfef_14 : decode cJ2_indexOf_4cfef 14 = .ok (.istore_n 3, 1) := by decide +kernel
theorem dJ2_indexOf_4cfef_15 : decode cJ2_indexOf_4cfef 15 = .ok (.iload_n 2, 1) := by decide +kernel
theorem dJ2_indexOf_4cfef_16 : decode cJ2_indexOf_4cfef 16 = .ok (.iload_n 3, 1) := by decide +kernel
theorem dJ2_indexOf_4cfef_17 : decode cJ2_indexOf_4cfef 17 = .ok (.if_icmp .lt 5, 3) := by decide +kernel
theorem dJ2_indexOf_4cfef_20 : decode cJ2_indexOf_4cfef 20 = .ok (.iconst (-1), 1) := by decide +kernel
theorem dJ2_indexOf_4cfef_21 : decode cJ2_indexOf_4cfef 21 = .ok (.ireturn, 1) := by decide +kernel
theorem dJ2_indexOf_4cfef_22 : decode cJ2_indexOf_4cfef 22 = .ok (.iload_n 1, 1) := by decide +kernel
theorem dJ2_indexOf_4cfef_23 : decode cJ2_indexOf_4cfef 23 = .ok (.ldc 227, 2) := by decide +kernel
theorem dJ2_indexOf_4cfef_25 : decode cJ2_indexOf_4cfef 25 = .ok (.if_icmp .ge 11, 3) := by decide +kernel
theorem dJ2_indexOf_4cfef_28 : decode cJ2_indexOf_4cfef 28 = .ok (.aload_n 0, 1) := by decide +kernel
theorem dJ2_indexOf_4cfef_29 : decode cJ2_indexOf_4cfef 29 = .ok (.iload_n 1, 1) := by decide +kernel
theorem dJ2_indexOf_4cfef_30 : decode cJ2_indexOf_4cfef 30 = .ok (.iload_n 2, 1) := by decide +kernel
theorem dJ2_indexOf_4cfef_31 : decode cJ2_indexOf_4cfef 31 = .ok (.iload_n 3, 1) := by decide +kernel
theorem dJ2_indexOf_4cfef_32 : decode cJ2_indexOf_4cfef 32 = .ok (.invokestatic 228, 3) := by decide +kernel
theorem dJ2_indexOf_4cfef_35 : decode cJ2_indexOf_4cfef 35 = .ok (.ireturn, 1) := by decide +kernel
theorem dJ2_indexOf_4cfef_36 : decode cJ2_indexOf_4cfef 36 = .ok (.aload_n 0, 1) := by decide +kernel
theorem dJ2_indexOf_4cfef_37 : decode cJ2_indexOf_4cfef 37 = .ok (.iload_n 1, 1) := by decide +kernel
theorem dJ2_indexOf_4cfef_38 : decode cJ2_indexOf_4cfef 38 = .ok (.iload_n 2, 1) := by decide +kernel
theorem dJ2_indexOf_4cfef_39 : decode cJ2_indexOf_4cfef 39 = .ok (.iload_n 3, 1) := by decide +kernel
theorem dJ2_indexOf_4cfef_40 : decode cJ2_indexOf_4cfef 40 = .ok (.invokestatic 232, 3) := by decide +kernel
theorem dJ2_indexOf_4cfef_43 : decode cJ2_indexOf_4cfef 43 = .ok (.ireturn, 1) := by decide +kernel
theorem dJ2_indexOfChar_4cfef_0 : decode cJ2_indexOfChar_4cfef 0 = .ok (.iload_n 2, 1) := by decide +kernel
theorem dJ2_indexOfChar_4cfef_1 : decode cJ2_indexOfChar_4cfef 1 = .ok (.iload_n 3, 1) := by decide +kernel
theorem dJ2_indexOfChar_4cfef_2 : decode cJ2_indexOfChar_4cfef 2 = .ok (.aload_n 0, 1) := by decide +kernel
theorem dJ2_indexOfChar_4cfef_3 : decode cJ2_indexOfChar_4cfef 3 = .ok (.invokestatic 96, 3) := by decide +kernel
theorem dJ2_indexOfChar_4cfef_6 : decode cJ2_indexOfChar_4cfef 6 = .ok (.aload_n 0, 1) := by decide +kernel
theorem dJ2_indexOfChar_4cfef_7 : decode cJ2_indexOfChar_4cfef 7 = .ok (.iload_n 1, 1) := by decide +kernel
theorem dJ2_indexOfChar_4cfef_8 : decode cJ2_indexOfChar_4cfef 8 = .ok (.iload_n 2, 1) := by decide +kernel
theorem dJ2_indexOfChar_4cfef_9 : decode cJ2_indexOfChar_4cfef 9 = .ok (.iload_n 3, 1) := by decide +kernel
theorem dJ2_indexOfChar_4cfef_10 : decode cJ2_indexOfChar_4cfef 10 = .ok (.invokestatic 244, 3) := by decide +kernel
theorem dJ2_indexOfChar_4cfef_13 : decode cJ2_indexOfChar_4cfef 13 = .ok (.ireturn, 1) := by decide +kernel
theorem dJ2_indexOfCharUnsafe_4cfef_0 : decode cJ2_indexOfCharUnsafe_4cfef 0 = .ok (.iload_n 2, 1) := by decide +kernel
theorem dJ2_indexOfCharUnsafe_4cfef_1 : decode cJ2_indexOfCharUnsafe_4cfef 1 = .ok (.istore 4, 2) := by decide +kernel
theorem dJ2_indexOfCharUnsafe_4cfef_3 : decode cJ2_indexOfCharUnsafe_4cfef 3 = .ok (.iload 4, 2) := by decide +kernel
theorem dJ2_indexOfCharUnsafe_4cfef_5 : decode cJ2_indexOfCharUnsafe_4cfef 5 = .ok (.iload_n 3, 1) := by decide +kernel
theorem dJ2_indexOfCharUnsafe_4cfef_6 : decode cJ2_indexOfCharUnsafe_4cfef 6 = .ok (.if_icmp .ge 22, 3) := by decide +kernel
theorem dJ2_indexOfCharUnsafe_4cfef_9 : decode cJ2_indexOfCharUnsafe_4cfef 9 = .ok (.aload_n 0, 1) := by decide +kernel
theorem dJ2_indexOfCharUnsafe_4cfef_10 : decode cJ2_indexOfCharUnsafe_4cfef 10 = .ok (.iload 4, 2) := by decide +kernel
theorem dJ2_indexOfCharUnsafe_4cfef_12 : decode cJ2_indexOfCharUnsafe_4cfef 12 = .ok (.invokestatic 71, 3) := by decide +kernel
theorem dJ2_indexOfCharUnsafe_4cfef_15 : decode cJ2_indexOfCharUnsafe_4cfef 15 = .ok (.iload_n 1, 1) := by decide +kernel
theorem dJ2_indexOfCharUnsafe_4cfef_16 : decode cJ2_indexOfCharUnsafe_4cfef 16 = .ok (.if_icmp .ne 6, 3) := by decide +kernel
theorem dJ2_indexOfCharUnsafe_4cfef_19 : decode cJ2_indexOfCharUnsafe_4cfef 19 = .ok (.iload 4, 2) := by decide +kernel
theorem dJ2_indexOfCharUnsafe_4cfef_21 : decode cJ2_indexOfCharUnsafe_4cfef 21 = .ok (.ireturn, 1) := by decide +kernel
theorem dJ2_indexOfCharUnsafe_4cfef_22 : decode cJ2_indexOfCharUnsafe_4cfef 22 = .ok (.iinc 4 1, 3) := by decide +kernel
theorem dJ2_indexOfCharUnsafe_4cfef_25 : decode cJ2_indexOfCharUnsafe_4cfef 25 = .ok (.goto (-22), 3) := by decide +kernel
theorem dJ2_indexOfCharUnsafe_4cfef_28 : decode cJ2_indexOfCharUnsafe_4cfef 28 = .ok (.iconst (-1), 1) := by decide +kernel
theorem dJ2_indexOfCharUnsafe_4cfef_29 : decode cJ2_indexOfCharUnsafe_4cfef 29 = .ok (.ireturn, 1) := by decide +kernel
theorem dJ2_indexOfSupplementary_4cfef_0 : decode cJ2_indexOfSupplementary_4cfef 0 = .ok (.iload_n 1, 1) := by decide +kernel
theorem dJ2_indexOfSupplementary_4cfef_1 : decode cJ2_indexOfSupplementary_4cfef 1 = .ok (.invokestatic 164, 3) := by decide +kernel
theorem dJ2_indexOfSupplementary_4cfef_4 : decode cJ2_indexOfSupplementary_4cfef 4 = .ok (.ifCond .eq 65, 3) := by decide +kernel
theorem dJ2_indexOfSupplementary_4cfef_7 : decode cJ2_indexOfSupplementary_4cfef 7 = .ok (.iload_n 1, 1) := by decide +kernel
theorem dJ2_indexOfSupplementary_4cfef_8 : decode cJ2_indexOfSupplementary_4cfef 8 = .ok (.invokestatic 157, 3) := by decide +kernel
theorem dJ2_indexOfSupplementary_4cfef_11 : decode cJ2_indexOfSupplementary_4cfef 11 = .ok (.istore 4, 2) := by decide +kernel
theorem dJ2_indexOfSupplementary_4cfef_13 : decode cJ2_indexOfSupplementary_4cfef 13 = .ok (.iload_n 1, 1) := by decide +kernel
theorem dJ2_indexOfSupplementary_4cfef_14 : decode cJ2_indexOfSupplementary_4cfef 14 = .ok (.invokestatic 161, 3) := by decide +kernel
theorem dJ2_indexOfSupplementary_4cfef_17 : decode cJ2_indexOfSupplementary_4cfef 17 = .ok (.istore 5, 2) := by decide +kernel
theorem dJ2_indexOfSupplementary_4cfef_19 : decode cJ2_indexOfSupplementary_4cfef 19 = .ok (.iload_n 2, 1) := by decide +kernel
theorem dJ2_indexOfSupplementary_4cfef_20 : decode cJ2_indexOfSupplementary_4cfef 20 = .ok (.iload_n 3, 1) := by decide +kernel
theorem dJ2_indexOfSupplementary_4cfef_21 : decode cJ2_indexOfSupplementary_4cfef 21 = .ok (.aload_n 0, 1) := by decide +kernel
theorem dJ2_indexOfSupplementary_4cfef_22 : decode cJ2_indexOfSupplementary_4cfef 22 = .ok (.invokestatic 96, 3) := by decide +kernel
theorem dJ2_indexOfSupplementary_4cfef_25 : decode cJ2_indexOfSupplementary_4cfef 25 = .ok (.iload_n 2, 1) := by decide +kernel
theorem dJ2_indexOfSupplementary_4cfef_26 : decode cJ2_indexOfSupplementary_4cfef 26 = .ok (.istore 6, 2) := by decide +kernel
theorem dJ2_indexOfSupplementary_4cfef_28 : decode cJ2_indexOfSupplementary_4cfef 28 = .ok (.iload 6, 2) := by decide +kernel
theorem dJ2_indexOfSupplementary_4cfef_30 : decode cJ2_indexOfSupplementary_4cfef 30 = .ok (.iload_n 3, 1) := by decide +kernel
theorem dJ2_indexOfSupplementary_4cfef_31 : decode cJ2_indexOfSupplementary_4cfef 31 = .ok (.iconst 1, 1) := by decide +kernel
theorem dJ2_indexOfSupplementary_4cfef_32 : decode cJ2_indexOfSupplementary_4cfef 32 = .ok (.isub, 1) := by decide +kernel
theorem dJ2_indexOfSupplementary_4cfef_33 : decode cJ2_indexOfSupplementary_4cfef 33 = .ok (.if_icmp .ge 36, 3) := by decide +kernel
theorem dJ2_indexOfSupplementary_4cfef_36 : decode cJ2_indexOfSupplementary_4cfef 36 = .ok (.aload_n 0, 1) := by decide +kernel
theorem dJ2_indexOfSupplementary_4cfef_37 : decode cJ2_indexOfSupplementary_4cfef 37 = .ok (.iload 6, 2) := by decide +kernel
theorem dJ2_indexOfSupplementary_4cfef_39 : decode cJ2_indexOfSupplementary_4cfef 39 = .ok (.invokestatic 71, 3) := by decide +kernel
theorem dJ2_indexOfSupplementary_4cfef_42 : decode cJ2_indexOfSupplementary_4cfef 42 = .ok (.iload 4, 2) := by decide +kernel
theorem dJ2_indexOfSupplementary_4cfef_44 : decode cJ2_indexOfSupplementary_4cfef 44 = .ok (.if_icmp .ne 19, 3) := by decide +kernel
theorem dJ2_indexOfSupplementary_4cfef_47 : decode cJ2_indexOfSupplementary_4cfef 47 = .ok (.aload_n 0, 1) := by decide +kernel
theorem dJ2_indexOfSupplementary_4cfef_48 : decode cJ2_indexOfSupplementary_4cfef 48 = .ok (.iload 6, 2) := by decide +kernel
theorem dJ2_indexOfSupplementary_4cfef_50 : decode cJ2_indexOfSupplementary_4cfef 50 = .ok (.iconst 1, 1) := by decide +kernel
theorem dJ2_indexOfSupplementary_4cfef_51 : decode cJ2_indexOfSupplementary_4cfef 51 = .ok (.iadd, 1) := by decide +kernel
theorem dJ2_indexOfSupplementary_4cfef_52 : decode cJ2_indexOfSupplementary_4cfef 52 = .ok (.invokestatic 71, 3) := by decide +kernel
theorem dJ2_indexOfSupplementary_4cfef_55 : decode cJ2_indexOfSupplementary_4cfef 55 = .ok (.iload 5, 2) := by decide +kernel
theorem dJ2_indexOfSupplementary_4cfef_57 : decode cJ2_indexOfSupplementary_4cfef 57 = .ok (.if_icmp .ne 6, 3) := by decide +kernel
theorem dJ2_indexOfSupplementary_4cfef_60 : decode cJ2_indexOfSupplementary_4cfef 60 = .ok (.iload 6, 2) := by decide +kernel
theorem dJ2_indexOfSupplementary_4cfef_62 : decode cJ2_indexOfSupplementary_4cfef 62 = .ok (.ireturn, 1) := by decide +kernel
theorem dJ2_indexOfSupplementary_4cfef_63 : decode cJ2_indexOfSupplementary_4cfef 63 = .ok (.iinc 6 1, 3) := by decide +kernel
theorem dJ2_indexOfSupplementary_4cfef_66 : decode cJ2_indexOfSupplementary_4cfef 66 = .ok (.goto (-38), 3) := by decide +kernel
theorem dJ2_indexOfSupplementary_4cfef_69 : decode cJ2_indexOfSupplementary_4cfef 69 = .ok (.iconst (-1), 1) := by decide +kernel
theorem dJ2_indexOfSupplementary_4cfef_70 : decode cJ2_indexOfSupplementary_4cfef 70 = .ok (.ireturn, 1) := by decide +kernel
theorem dJ2_charAt_3b067_0 : decode cJ2_charAt_3b067 0 = .ok (.iload_n 1, 1) := by decide +kernel
theorem dJ2_charAt_3b067_1 : decode cJ2_charAt_3b067 1 = .ok (.aload_n 0, 1) := by decide +kernel
theorem dJ2_charAt_3b067_2 : decode cJ2_charAt_3b067 2 = .ok (.invokestatic 67, 3) := by decide +kernel
theorem dJ2_charAt_3b067_5 : decode cJ2_charAt_3b067 5 = .ok (.aload_n 0, 1) := by decide +kernel
theorem dJ2_charAt_3b067_6 : decode cJ2_charAt_3b067 6 = .ok (.iload_n 1, 1) := by decide +kernel
theorem dJ2_charAt_3b067_7 : decode cJ2_charAt_3b067 7 = .ok (.invokestatic 71, 3) := by decide +kernel
theorem dJ2_charAt_3b067_10 : decode cJ2_charAt_3b067 10 = .ok (.ireturn, 1) := by decide +kernel
theorem dJ2_checkIndex_2214a_0 : decode cJ2_checkIndex_2214a 0 = .ok (.iload_n 0, 1) := by decide +kernel
theorem dJ2_checkIndex_2214a_1 : decode cJ2_checkIndex_2214a 1 = .ok (.aload_n 1, 1) := by decide +kernel
theorem dJ2_checkIndex_2214a_2 : decode cJ2_checkIndex_2214a 2 = .ok (.invokestatic 48, 3) := by decide +kernel
theorem dJ2_checkIndex_2214a_5 : decode cJ2_checkIndex_2214a 5 = .ok (.invokestatic 414, 3) := by decide +kernel
theorem dJ2_checkIndex_2214a_8 : decode cJ2_checkIndex_2214a 8 = .ok (.return_, 1) := by decide +kernel
theorem dJ2_checkBoundsBeginEnd_d044e_0 : decode cJ2_checkBoundsBeginEnd_d044e 0 = .ok (.iload_n 0, 1) := by decide +kernel
theorem dJ2_checkBoundsBeginEnd_d044e_1 : decode cJ2_checkBoundsBeginEnd_d044e 1 = .ok (.iload_n 1, 1) := by decide +kernel
theorem dJ2_checkBoundsBeginEnd_d044e_2 : decode cJ2_checkBoundsBeginEnd_d044e 2 = .ok (.aload_n 2, 1) := by decide +kernel
theorem dJ2_checkBoundsBeginEnd_d044e_3 : decode cJ2_checkBoundsBeginEnd_d044e 3 = .ok (.invokestatic 48, 3) := by decide +kernel
theorem dJ2_checkBoundsBeginEnd_d044e_6 : decode cJ2_checkBoundsBeginEnd_d044e 6 = .ok (.invokestatic 241, 3) := by decide +kernel
theorem dJ2_checkBoundsBeginEnd_d044e_9 : decode cJ2_checkBoundsBeginEnd_d044e 9 = .ok (.return_, 1) := by decide +kernel
theorem dJ7_fill_53178_0 : decode cJ7_fill_53178 0 = .ok (.iconst 0, 1) := by decide +kernel
theorem dJ7_fill_53178_1 : decode cJ7_fill_53178 1 = .ok (.istore_n 2, 1) := by decide +kernel
theorem dJ7_fill_53178_2 : decode cJ7_fill_53178 2 = .ok (.aload_n 0, 1) := by decide +kernel
theorem dJ7_fill_53178_3 : decode cJ7_fill_53178 3 = .ok (.arraylength, 1) := by decide +kernel
theorem dJ7_fill_53178_4 : decode cJ7_fill_53178 4 = .ok (.istore_n 3, 1) := by decide +kernel
theorem dJ7_fill_53178_5 : decode cJ7_fill_53178 5 = .ok (.iload_n 2, 1) := by decide +kernel
theorem dJ7_fill_53178_6 : decode cJ7_fill_53178 6 = .ok (.iload_n 3, 1) := by decide +kernel
theorem dJ7_fill_53178_7 : decode cJ7_fill_53178 7 = .ok (.if_icmp .ge 13, 3) := by decide +kernel
theorem dJ7_fill_53178_10 : decode cJ7_fill_53178 10 = .ok (.aload_n 0, 1) := by decide +kernel
theorem dJ7_fill_53178_11 : decode cJ7_fill_53178 11 = .ok (.iload_n 2, 1) := by decide +kernel
theorem dJ7_fill_53178_12 : decode cJ7_fill_53178 12 = .ok (.iload_n 1, 1) := by decide +kernel
theorem dJ7_fill_53178_13 : decode cJ7_fill_53178 13 = .ok (.iastore, 1) := by decide +kernel
theorem dJ7_fill_53178_14 : decode cJ7_fill_53178 14 = .ok (.iinc 2 1, 3) := by decide +kernel
theorem dJ7_fill_53178_17 : decode cJ7_fill_53178 17 = .ok (.goto (-12), 3) := by decide +kernel
theorem dJ7_fill_53178_20 : decode cJ7_fill_53178 20 = .ok (.return_, 1) := by decide +kernel
theorem dJ3_checkIndex_8e157_0 : decode cJ3_checkIndex_8e157 0 = .ok (.iload_n 0, 1) := by decide +kernel
theorem dJ3_checkIndex_8e157_1 : decode cJ3_checkIndex_8e157 1 = .ok (.ifCond .lt 8, 3) := by decide +kernel
theorem dJ3_checkIndex_8e157_4 : decode cJ3_checkIndex_8e157 4 = .ok (.iload_n 0, 1) := by decide +kernel
theorem dJ3_checkIndex_8e157_5 : decode cJ3_checkIndex_8e157 5 = .ok (.iload_n 1, 1) := by decide +kernel
theorem dJ3_checkIndex_8e157_6 : decode cJ3_checkIndex_8e157 6 = .ok (.if_icmp .lt 10, 3) := by decide +kernel
theorem dJ3_checkIndex_8e157_9 : decode cJ3_checkIndex_8e157 9 = .ok (.aload_n 2, 1) := by decide +kernel
theorem dJ3_checkIndex_8e157_10 : decode cJ3_checkIndex_8e157 10 = .ok (.iload_n 0, 1) := by decide +kernel
theorem dJ3_checkIndex_8e157_11 : decode cJ3_checkIndex_8e157 11 = .ok (.iload_n 1, 1) := by decide +kernel
theorem dJ3_checkIndex_8e157_12 : decode cJ3_checkIndex_8e157 12 = .ok (.invokestatic 95, 3) := by decide +kernel
theorem dJ3_checkIndex_8e157_15 : decode cJ3_checkIndex_8e157 15 = .ok (.athrow, 1) := by decide +kernel
theorem dJ3_checkIndex_8e157_16 : decode cJ3_checkIndex_8e157 16 = .ok (.iload_n 0, 1) := by decide +kernel
theorem dJ3_checkIndex_8e157_17 : decode cJ3_checkIndex_8e157 17 = .ok (.ireturn, 1) := by decide +kernel
theorem dJ3_checkFromToIndex_8c36e_0 : decode cJ3_checkFromToIndex_8c36e 0 = .ok (.iload_n 0, 1) := by decide +kernel
theorem dJ3_checkFromToIndex_8c36e_1 : decode cJ3_checkFromToIndex_8c36e 1 = .ok (.ifCond .lt 13, 3) := by decide +kernel
theorem dJ3_checkFromToIndex_8c36e_4 : decode cJ3_checkFromToIndex_8c36e 4 = .ok (.iload_n 0, 1) := by decide +kernel
theorem dJ3_checkFromToIndex_8c36e_5 : decode cJ3_checkFromToIndex_8c36e 5 = .ok (.iload_n 1, 1) := by decide +kernel
theorem dJ3_checkFromToIndex_8c36e_6 : decode cJ3_checkFromToIndex_8c36e 6 = .ok (.if_icmp .gt 8, 3) := by decide +kernel
theorem dJ3_checkFromToIndex_8c36e_9 : decode cJ3_checkFromToIndex_8c36e 9 = .ok (.iload_n 1, 1) := by decide +kernel
theorem dJ3_checkFromToIndex_8c36e_10 : decode cJ3_checkFromToIndex_8c36e 10 = .ok (.iload_n 2, 1) := by decide +kernel
theorem dJ3_checkFromToIndex_8c36e_11 : decode cJ3_checkFromToIndex_8c36e 11 = .ok (.if_icmp .le 11, 3) := by decide +kernel
theorem dJ3_checkFromToIndex_8c36e_14 : decode cJ3_checkFromToIndex_8c36e 14 = .ok (.aload_n 3, 1) := by decide +kernel
theorem dJ3_checkFromToIndex_8c36e_15 : decode cJ3_checkFromToIndex_8c36e 15 = .ok (.iload_n 0, 1) := by decide +kernel
theorem dJ3_checkFromToIndex_8c36e_16 : decode cJ3_checkFromToIndex_8c36e 16 = .ok (.iload_n 1, 1) := by decide +kernel
theorem dJ3_checkFromToIndex_8c36e_17 : decode cJ3_checkFromToIndex_8c36e 17 = .ok (.iload_n 2, 1) := by decide +kernel
theorem dJ3_checkFromToIndex_8c36e_18 : decode cJ3_checkFromToIndex_8c36e 18 = .ok (.invokestatic 99, 3) := by decide +kernel
theorem dJ3_checkFromToIndex_8c36e_21 : decode cJ3_checkFromToIndex_8c36e 21 = .ok (.athrow, 1) := by decide +kernel
theorem dJ3_checkFromToIndex_8c36e_22 : decode cJ3_checkFromToIndex_8c36e 22 = .ok (.iload_n 0, 1) := by decide +kernel
theorem dJ3_checkFromToIndex_8c36e_23 : decode cJ3_checkFromToIndex_8c36e 23 = .ok (.ireturn, 1) := by decide +kernel
theorem dL_law_0 : decode cL_law 0 = .ok (.new 7, 3) := by decide +kernel
theorem dL_law_3 : decode cL_law 3 = .ok (.dup, 1) := by decide +kernel
theorem dL_law_4 : decode cL_law 4 = .ok (.invokespecial 9, 3) := by decide +kernel
theorem dL_law_7 : decode cL_law 7 = .ok (.astore_n 1, 1) := by decide +kernel
theorem dL_law_8 : decode cL_law 8 = .ok (.new 10, 3) := by decide +kernel
theorem dL_law_11 : decode cL_law 11 = .ok (.dup, 1) := by decide +kernel
theorem dL_law_12 : decode cL_law 12 = .ok (.invokespecial 12, 3) := by decide +kernel
theorem dL_law_15 : decode cL_law 15 = .ok (.astore_n 2, 1) := by decide +kernel
theorem dL_law_16 : decode cL_law 16 = .ok (.iconst 0, 1) := by decide +kernel
theorem dL_law_17 : decode cL_law 17 = .ok (.istore_n 3, 1) := by decide +kernel
theorem dL_law_18 : decode cL_law 18 = .ok (.iload_n 3, 1) := by decide +kernel
theorem dL_law_19 : decode cL_law 19 = .ok (.aload_n 0, 1) := by decide +kernel
theorem dL_law_20 : decode cL_law 20 = .ok (.arraylength, 1) := by decide +kernel
theorem dL_law_21 : decode cL_law 21 = .ok (.bipush 6, 2) := by decide +kernel
theorem dL_law_23 : decode cL_law 23 = .ok (.isub, 1) := by decide +kernel
theorem dL_law_24 : decode cL_law 24 = .ok (.if_icmp .gt 1291, 3) := by decide +kernel
theorem dL_law_27 : decode cL_law 27 = .ok (.aload_n 0, 1) := by decide +kernel
theorem dL_law_28 : decode cL_law 28 = .ok (.iload_n 3, 1) := by decide +kernel
theorem dL_law_29 : decode cL_law 29 = .ok (.iaload, 1) := by decide +kernel
theorem dL_law_30 : decode cL_law 30 = .ok (.bipush 63, 2) := by decide +kernel
theorem dL_law_32 : decode cL_law 32 = .ok (.iand, 1) := by decide +kernel
theorem dL_law_33 : decode cL_law 33 = .ok (.tableswitch 1276 0 34 #[155, 178, 201, 244, 277, 320, 343, 406, 429, 452, 475, 508, 551, 584, 617, 640, 693, 746, 779, 812, 835, 858, 881, 924, 967, 1000, 1033, 1056, 1089, 1102, 1135, 1158, 1201, 1214, 1253], 155) := by decide +kernel
theorem dL_law_188 : decode cL_law 188 = .ok (.aload_n 1, 1) := by decide +kernel
theorem dL_law_189 : decode cL_law 189 = .ok (.aload_n 0, 1) := by decide +kernel
theorem dL_law_190 : decode cL_law 190 = .ok (.iload_n 3, 1) := by decide +kernel
theorem dL_law_191 : decode cL_law 191 = .ok (.iconst 1, 1) := by decide +kernel
theorem dL_law_192 : decode cL_law 192 = .ok (.iadd, 1) := by decide +kernel
theorem dL_law_193 : decode cL_law 193 = .ok (.iaload, 1) := by decide +kernel
theorem dL_law_194 : decode cL_law 194 = .ok (.invokevirtual 13, 3) := by decide +kernel
theorem dL_law_197 : decode cL_law 197 = .ok (.aload_n 2, 1) := by decide +kernel
theorem dL_law_198 : decode cL_law 198 = .ok (.aload_n 0, 1) := by decide +kernel
theorem dL_law_199 : decode cL_law 199 = .ok (.iload_n 3, 1) := by decide +kernel
theorem dL_law_200 : decode cL_law 200 = .ok (.iconst 1, 1) := by decide +kernel
theorem dL_law_201 : decode cL_law 201 = .ok (.iadd, 1) := by decide +kernel
theorem dL_law_202 : decode cL_law 202 = .ok (.iaload, 1) := by decide +kernel
theorem dL_law_203 : decode cL_law 203 = .ok (.invokevirtual 17, 3) := by decide +kernel
theorem dL_law_206 : decode cL_law 206 = .ok (.if_icmp .eq 1103, 3) := by decide +kernel
theorem dL_law_209 : decode cL_law 209 = .ok (.iconst 0, 1) := by decide +kernel
theorem dL_law_210 : decode cL_law 210 = .ok (.ireturn, 1) := by decide +kernel
theorem dL_law_211 : decode cL_law 211 = .ok (.aload_n 1, 1) := by decide +kernel
theorem dL_law_212 : decode cL_law 212 = .ok (.aload_n 0, 1) := by decide +kernel
theorem dL_law_213 : decode cL_law 213 = .ok (.iload_n 3, 1) := by decide +kernel
theorem dL_law_214 : decode cL_law 214 = .ok (.iconst 1, 1) := by decide +kernel
theorem dL_law_215 : decode cL_law 215 = .ok (.iadd, 1) := by decide +kernel
theorem dL_law_216 : decode cL_law 216 = .ok (.iaload, 1) := by decide +kernel
theorem dL_law_217 : decode cL_law 217 = .ok (.invokevirtual 18, 3) := by decide +kernel
theorem dL_law_220 : decode cL_law 220 = .ok (.aload_n 2, 1) := by decide +kernel
theorem dL_law_221 : decode cL_law 221 = .ok (.aload_n 0, 1) := by decide +kernel
theorem dL_law_222 : decode cL_law 222 = .ok (.iload_n 3, 1) := by decide +kernel
theorem dL_law_223 : decode cL_law 223 = .ok (.iconst 1, 1) := by decide +kernel
theorem dL_law_224 : decode cL_law 224 = .ok (.iadd, 1) := by decide +kernel
theorem dL_law_225 : decode cL_law 225 = .ok (.iaload, 1) := by decide +kernel
theorem dL_law_226 : decode cL_law 226 = .ok (.invokevirtual 21, 3) := by decide +kernel
theorem dL_law_229 : decode cL_law 229 = .ok (.if_icmp .eq 1080, 3) := by decide +kernel
theorem dL_law_232 : decode cL_law 232 = .ok (.iconst 0, 1) := by decide +kernel
theorem dL_law_233 : decode cL_law 233 = .ok (.ireturn, 1) := by decide +kernel
theorem dL_law_234 : decode cL_law 234 = .ok (.aload_n 1, 1) := by decide +kernel
theorem dL_law_235 : decode cL_law 235 = .ok (.aload_n 0, 1) := by decide +kernel
theorem dL_law_236 : decode cL_law 236 = .ok (.iload_n 3, 1) := by decide +kernel
theorem dL_law_237 : decode cL_law 237 = .ok (.iconst 1, 1) := by decide +kernel
theorem dL_law_238 : decode cL_law 238 = .ok (.iadd, 1) := by decide +kernel
theorem dL_law_239 : decode cL_law 239 = .ok (.iaload, 1) := by decide +kernel
theorem dL_law_240 : decode cL_law 240 = .ok (.aload_n 0, 1) := by decide +kernel
theorem dL_law_241 : decode cL_law 241 = .ok (.iload_n 3, 1) := by decide +kernel
theorem dL_law_242 : decode cL_law 242 = .ok (.iconst 2, 1) := by decide +kernel
theorem dL_law_243 : decode cL_law 243 = .ok (.iadd, 1) := by decide +kernel
theorem dL_law_244 : decode cL_law 244 = .ok (.iaload, 1) := by decide +kernel
theorem dL_law_245 : decode cL_law 245 = .ok (.aload_n 0, 1) := by decide +kernel
theorem dL_law_246 : decode cL_law 246 = .ok (.iload_n 3, 1) := by decide +kernel
theorem dL_law_247 : decode cL_law 247 = .ok (.iconst 3, 1) := by decide +kernel
theorem dL_law_248 : decode cL_law 248 = .ok (.iadd, 1) := by decide +kernel
theorem dL_law_249 : decode cL_law 249 = .ok (.iaload, 1) := by decide +kernel
theorem dL_law_250 : decode cL_law 250 = .ok (.invokevirtual 22, 3) := by decide +kernel
theorem dL_law_253 : decode cL_law 253 = .ok (.aload_n 2, 1) := by decide +kernel
theorem dL_law_254 : decode cL_law 254 = .ok (.aload_n 0, 1) := by decide +kernel
theorem dL_law_255 : decode cL_law 255 = .ok (.iload_n 3, 1) := by decide +kernel
theorem dL_law_256 : decode cL_law 256 = .ok (.iconst 1, 1) := by decide +kernel
theorem dL_law_257 : decode cL_law 257 = .ok (.iadd, 1) := by decide +kernel
theorem dL_law_258 : decode cL_law 258 = .ok (.iaload, 1) := by decide +kernel
theorem dL_law_259 : decode cL_law 259 = .ok (.aload_n 0, 1) := by decide +kernel
theorem dL_law_260 : decode cL_law 260 = .ok (.iload_n 3, 1) := by decide +kernel
theorem dL_law_261 : decode cL_law 261 = .ok (.iconst 2, 1) := by decide +kernel
theorem dL_law_262 : decode cL_law 262 = .ok (.iadd, 1) := by decide +kernel
theorem dL_law_263 : decode cL_law 263 = .ok (.iaload, 1) := by decide +kernel
theorem dL_law_264 : decode cL_law 264 = .ok (.aload_n 0, 1) := by decide +kernel
theorem dL_law_265 : decode cL_law 265 = .ok (.iload_n 3, 1) := by decide +kernel
theorem dL_law_266 : decode cL_law 266 = .ok (.iconst 3, 1) := by decide +kernel
theorem dL_law_267 : decode cL_law 267 = .ok (.iadd, 1) := by decide +kernel
theorem dL_law_268 : decode cL_law 268 = .ok (.iaload, 1) := by decide +kernel
theorem dL_law_269 : decode cL_law 269 = .ok (.invokevirtual 26, 3) := by decide +kernel
theorem dL_law_272 : decode cL_law 272 = .ok (.if_icmp .eq 1037, 3) := by decide +kernel
theorem dL_law_275 : decode cL_law 275 = .ok (.iconst 0, 1) := by decide +kernel
theorem dL_law_276 : decode cL_law 276 = .ok (.ireturn, 1) := by decide +kernel
theorem dL_law_277 : decode cL_law 277 = .ok (.aload_n 1, 1) := by decide +kernel
theorem dL_law_278 : decode cL_law 278 = .ok (.aload_n 0, 1) := by decide +kernel
theorem dL_law_279 : decode cL_law 279 = .ok (.iload_n 3, 1) := by decide +kernel
theorem dL_law_280 : decode cL_law 280 = .ok (.iconst 1, 1) := by decide +kernel
theorem dL_law_281 : decode cL_law 281 = .ok (.iadd, 1) := by decide +kernel
theorem dL_law_282 : decode cL_law 282 = .ok (.iaload, 1) := by decide +kernel
theorem dL_law_283 : decode cL_law 283 = .ok (.aload_n 0, 1) := by decide +kernel
theorem dL_law_284 : decode cL_law 284 = .ok (.iload_n 3, 1) := by decide +kernel
theorem dL_law_285 : decode cL_law 285 = .ok (.iconst 2, 1) := by decide +kernel
theorem dL_law_286 : decode cL_law 286 = .ok (.iadd, 1) := by decide +kernel
theorem dL_law_287 : decode cL_law 287 = .ok (.iaload, 1) := by decide +kernel
theorem dL_law_288 : decode cL_law 288 = .ok (.invokevirtual 27, 3) := by decide +kernel
theorem dL_law_291 : decode cL_law 291 = .ok (.aload_n 2, 1) := by decide +kernel
theorem dL_law_292 : decode cL_law 292 = .ok (.aload_n 0, 1) := by decide +kernel
theorem dL_law_293 : decode cL_law 293 = .ok (.iload_n 3, 1) := by decide +kernel
theorem dL_law_294 : decode cL_law 294 = .ok (.iconst 1, 1) := by decide +kernel
theorem dL_law_295 : decode cL_law 295 = .ok (.iadd, 1) := by decide +kernel
theorem dL_law_296 : decode cL_law 296 = .ok (.iaload, 1) := by decide +kernel
theorem dL_law_297 : decode cL_law 297 = .ok (.aload_n 0, 1) := by decide +kernel
theorem dL_law_298 : decode cL_law 298 = .ok (.iload_n 3, 1) := by decide +kernel
theorem dL_law_299 : decode cL_law 299 = .ok (.iconst 2, 1) := by decide +kernel
theorem dL_law_300 : decode cL_law 300 = .ok (.iadd, 1) := by decide +kernel
theorem dL_law_301 : decode cL_law 301 = .ok (.iaload, 1) := by decide +kernel
theorem dL_law_302 : decode cL_law 302 = .ok (.invokevirtual 31, 3) := by decide +kernel
theorem dL_law_305 : decode cL_law 305 = .ok (.if_icmp .eq 1004, 3) := by decide +kernel
theorem dL_law_308 : decode cL_law 308 = .ok (.iconst 0, 1) := by decide +kernel
theorem dL_law_309 : decode cL_law 309 = .ok (.ireturn, 1) := by decide +kernel
theorem dL_law_310 : decode cL_law 310 = .ok (.aload_n 1, 1) := by decide +kernel
theorem dL_law_311 : decode cL_law 311 = .ok (.aload_n 0, 1) := by decide +kernel
theorem dL_law_312 : decode cL_law 312 = .ok (.iload_n 3, 1) := by decide +kernel
theorem dL_law_313 : decode cL_law 313 = .ok (.iconst 1, 1) := by decide +kernel
theorem dL_law_314 : decode cL_law 314 = .ok (.iadd, 1) := by decide +kernel
theorem dL_law_315 : decode cL_law 315 = .ok (.iaload, 1) := by decide +kernel
theorem dL_law_316 : decode cL_law 316 = .ok (.aload_n 0, 1) := by decide +kernel
theorem dL_law_317 : decode cL_law 317 = .ok (.iload_n 3, 1) := by decide +kernel
theorem dL_law_318 : decode cL_law 318 = .ok (.iconst 2, 1) := by decide +kernel
theorem dL_law_319 : decode cL_law 319 = .ok (.iadd, 1) := by decide +kernel
theorem dL_law_320 : decode cL_law 320 = .ok (.iaload, 1) := by decide +kernel
theorem dL_law_321 : decode cL_law 321 = .ok (.aload_n 0, 1) := by decide +kernel
theorem dL_law_322 : decode cL_law 322 = .ok (.iload_n 3, 1) := by decide +kernel
theorem dL_law_323 : decode cL_law 323 = .ok (.iconst 3, 1) := by decide +kernel
theorem dL_law_324 : decode cL_law 324 = .ok (.iadd, 1) := by decide +kernel
theorem dL_law_325 : decode cL_law 325 = .ok (.iaload, 1) := by decide +kernel
theorem dL_law_326 : decode cL_law 326 = .ok (.invokevirtual 32, 3) := by decide +kernel
theorem dL_law_329 : decode cL_law 329 = .ok (.aload_n 2, 1) := by decide +kernel
theorem dL_law_330 : decode cL_law 330 = .ok (.aload_n 0, 1) := by decide +kernel
theorem dL_law_331 : decode cL_law 331 = .ok (.iload_n 3, 1) := by decide +kernel
theorem dL_law_332 : decode cL_law 332 = .ok (.iconst 1, 1) := by decide +kernel
theorem dL_law_333 : decode cL_law 333 = .ok (.iadd, 1) := by decide +kernel
theorem dL_law_334 : decode cL_law 334 = .ok (.iaload, 1) := by decide +kernel
theorem dL_law_335 : decode cL_law 335 = .ok (.aload_n 0, 1) := by decide +kernel
theorem dL_law_336 : decode cL_law 336 = .ok (.iload_n 3, 1) := by decide +kernel
theorem dL_law_337 : decode cL_law 337 = .ok (.iconst 2, 1) := by decide +kernel
theorem dL_law_338 : decode cL_law 338 = .ok (.iadd, 1) := by decide +kernel
theorem dL_law_339 : decode cL_law 339 = .ok (.iaload, 1) := by decide +kernel
theorem dL_law_340 : decode cL_law 340 = .ok (.aload_n 0, 1) := by decide +kernel
theorem dL_law_341 : decode cL_law 341 = .ok (.iload_n 3, 1) := by decide +kernel
theorem dL_law_342 : decode cL_law 342 = .ok (.iconst 3, 1) := by decide +kernel
theorem dL_law_343 : decode cL_law 343 = .ok (.iadd, 1) := by decide +kernel
theorem dL_law_344 : decode cL_law 344 = .ok (.iaload, 1) := by decide +kernel
theorem dL_law_345 : decode cL_law 345 = .ok (.invokevirtual 35, 3) := by decide +kernel
theorem dL_law_348 : decode cL_law 348 = .ok (.if_icmp .eq 961, 3) := by decide +kernel
theorem dL_law_351 : decode cL_law 351 = .ok (.iconst 0, 1) := by decide +kernel
theorem dL_law_352 : decode cL_law 352 = .ok (.ireturn, 1) := by decide +kernel
theorem dL_law_353 : decode cL_law 353 = .ok (.aload_n 1, 1) := by decide +kernel
theorem dL_law_354 : decode cL_law 354 = .ok (.aload_n 0, 1) := by decide +kernel
theorem dL_law_355 : decode cL_law 355 = .ok (.iload_n 3, 1) := by decide +kernel
theorem dL_law_356 : decode cL_law 356 = .ok (.iconst 1, 1) := by decide +kernel
theorem dL_law_357 : decode cL_law 357 = .ok (.iadd, 1) := by decide +kernel
theorem dL_law_358 : decode cL_law 358 = .ok (.iaload, 1) := by decide +kernel
theorem dL_law_359 : decode cL_law 359 = .ok (.invokevirtual 36, 3) := by decide +kernel
theorem dL_law_362 : decode cL_law 362 = .ok (.aload_n 2, 1) := by decide +kernel
theorem dL_law_363 : decode cL_law 363 = .ok (.aload_n 0, 1) := by decide +kernel
theorem dL_law_364 : decode cL_law 364 = .ok (.iload_n 3, 1) := by decide +kernel
theorem dL_law_365 : decode cL_law 365 = .ok (.iconst 1, 1) := by decide +kernel
theorem dL_law_366 : decode cL_law 366 = .ok (.iadd, 1) := by decide +kernel
theorem dL_law_367 : decode cL_law 367 = .ok (.iaload, 1) := by decide +kernel
theorem dL_law_368 : decode cL_law 368 = .ok (.invokevirtual 39, 3) := by decide +kernel
theorem dL_law_371 : decode cL_law 371 = .ok (.if_icmp .eq 938, 3) := by decide +kernel
theorem dL_law_374 : decode cL_law 374 = .ok (.iconst 0, 1) := by decide +kernel
theorem dL_law_375 : decode cL_law 375 = .ok (.ireturn, 1) := by decide +kernel
theorem dL_law_376 : decode cL_law 376 = .ok (.aload_n 1, 1) := by decide +kernel
theorem dL_law_377 : decode cL_law 377 = .ok (.aload_n 0, 1) := by decide +kernel
theorem dL_law_378 : decode cL_law 378 = .ok (.iload_n 3, 1) := by decide +kernel
theorem dL_law_379 : decode cL_law 379 = .ok (.iconst 1, 1) := by decide +kernel
theorem dL_law_380 : decode cL_law 380 = .ok (.iadd, 1) := by decide +kernel
theorem dL_law_381 : decode cL_law 381 = .ok (.iaload, 1) := by decide +kernel
theorem dL_law_382 : decode cL_law 382 = .ok (.aload_n 0, 1) := by decide +kernel
theorem dL_law_383 : decode cL_law 383 = .ok (.iload_n 3, 1) := by decide +kernel
theorem dL_law_384 : decode cL_law 384 = .ok (.iconst 2, 1) := by decide +kernel
theorem dL_law_385 : decode cL_law 385 = .ok (.iadd, 1) := by decide +kernel
theorem dL_law_386 : decode cL_law 386 = .ok (.iaload, 1) := by decide +kernel
theorem dL_law_387 : decode cL_law 387 = .ok (.aload_n 0, 1) := by decide +kernel
theorem dL_law_388 : decode cL_law 388 = .ok (.iload_n 3, 1) := by decide +kernel
theorem dL_law_389 : decode cL_law 389 = .ok (.iconst 3, 1) := by decide +kernel
theorem dL_law_390 : decode cL_law 390 = .ok (.iadd, 1) := by decide +kernel
theorem dL_law_391 : decode cL_law 391 = .ok (.iaload, 1) := by decide +kernel
theorem dL_law_392 : decode cL_law 392 = .ok (.aload_n 0, 1) := by decide +kernel
theorem dL_law_393 : decode cL_law 393 = .ok (.iload_n 3, 1) := by decide +kernel
theorem dL_law_394 : decode cL_law 394 = .ok (.iconst 4, 1) := by decide +kernel
theorem dL_law_395 : decode cL_law 395 = .ok (.iadd, 1) := by decide +kernel
theorem dL_law_396 : decode cL_law 396 = .ok (.iaload, 1) := by decide +kernel
theorem dL_law_397 : decode cL_law 397 = .ok (.aload_n 0, 1) := by decide +kernel
theorem dL_law_398 : decode cL_law 398 = .ok (.iload_n 3, 1) := by decide +kernel
theorem dL_law_399 : decode cL_law 399 = .ok (.iconst 5, 1) := by decide +kernel
theorem dL_law_400 : decode cL_law 400 = .ok (.iadd, 1) := by decide +kernel
theorem dL_law_401 : decode cL_law 401 = .ok (.iaload, 1) := by decide +kernel
theorem dL_law_402 : decode cL_law 402 = .ok (.invokevirtual 40, 3) := by decide +kernel
theorem dL_law_405 : decode cL_law 405 = .ok (.aload_n 2, 1) := by decide +kernel
theorem dL_law_406 : decode cL_law 406 = .ok (.aload_n 0, 1) := by decide +kernel
theorem dL_law_407 : decode cL_law 407 = .ok (.iload_n 3, 1) := by decide +kernel
theorem dL_law_408 : decode cL_law 408 = .ok (.iconst 1, 1) := by decide +kernel
theorem dL_law_409 : decode cL_law 409 = .ok (.iadd, 1) := by decide +kernel
theorem dL_law_410 : decode cL_law 410 = .ok (.iaload, 1) := by decide +kernel
theorem dL_law_411 : decode cL_law 411 = .ok (.aload_n 0, 1) := by decide +kernel
theorem dL_law_412 : decode cL_law 412 = .ok (.iload_n 3, 1) := by decide +kernel
theorem dL_law_413 : decode cL_law 413 = .ok (.iconst 2, 1) := by decide +kernel
theorem dL_law_414 : decode cL_law 414 = .ok (.iadd, 1) := by decide +kernel
theorem dL_law_415 : decode cL_law 415 = .ok (.iaload, 1) := by decide +kernel
theorem dL_law_416 : decode cL_law 416 = .ok (.aload_n 0, 1) := by decide +kernel
theorem dL_law_417 : decode cL_law 417 = .ok (.iload_n 3, 1) := by decide +kernel
theorem dL_law_418 : decode cL_law 418 = .ok (.iconst 3, 1) := by decide +kernel
theorem dL_law_419 : decode cL_law 419 = .ok (.iadd, 1) := by decide +kernel
theorem dL_law_420 : decode cL_law 420 = .ok (.iaload, 1) := by decide +kernel
theorem dL_law_421 : decode cL_law 421 = .ok (.aload_n 0, 1) := by decide +kernel
theorem dL_law_422 : decode cL_law 422 = .ok (.iload_n 3, 1) := by decide +kernel
theorem dL_law_423 : decode cL_law 423 = .ok (.iconst 4, 1) := by decide +kernel
theorem dL_law_424 : decode cL_law 424 = .ok (.iadd, 1) := by decide +kernel
theorem dL_law_425 : decode cL_law 425 = .ok (.iaload, 1) := by decide +kernel
theorem dL_law_426 : decode cL_law 426 = .ok (.aload_n 0, 1) := by decide +kernel
theorem dL_law_427 : decode cL_law 427 = .ok (.iload_n 3, 1) := by decide +kernel
theorem dL_law_428 : decode cL_law 428 = .ok (.iconst 5, 1) := by decide +kernel
theorem dL_law_429 : decode cL_law 429 = .ok (.iadd, 1) := by decide +kernel
theorem dL_law_430 : decode cL_law 430 = .ok (.iaload, 1) := by decide +kernel
theorem dL_law_431 : decode cL_law 431 = .ok (.invokevirtual 44, 3) := by decide +kernel
theorem dL_law_434 : decode cL_law 434 = .ok (.if_icmp .eq 875, 3) := by decide +kernel
theorem dL_law_437 : decode cL_law 437 = .ok (.iconst 0, 1) := by decide +kernel
theorem dL_law_438 : decode cL_law 438 = .ok (.ireturn, 1) := by decide +kernel
theorem dL_law_439 : decode cL_law 439 = .ok (.aload_n 1, 1) := by decide +kernel
theorem dL_law_440 : decode cL_law 440 = .ok (.aload_n 0, 1) := by decide +kernel
theorem dL_law_441 : decode cL_law 441 = .ok (.iload_n 3, 1) := by decide +kernel
theorem dL_law_442 : decode cL_law 442 = .ok (.iconst 1, 1) := by decide +kernel
theorem dL_law_443 : decode cL_law 443 = .ok (.iadd, 1) := by decide +kernel
theorem dL_law_444 : decode cL_law 444 = .ok (.iaload, 1) := by decide +kernel
theorem dL_law_445 : decode cL_law 445 = .ok (.invokevirtual 45, 3) := by decide +kernel
theorem dL_law_448 : decode cL_law 448 = .ok (.aload_n 2, 1) := by decide +kernel
theorem dL_law_449 : decode cL_law 449 = .ok (.aload_n 0, 1) := by decide +kernel
theorem dL_law_450 : decode cL_law 450 = .ok (.iload_n 3, 1) := by decide +kernel
theorem dL_law_451 : decode cL_law 451 = .ok (.iconst 1, 1) := by decide +kernel
theorem dL_law_452 : decode cL_law 452 = .ok (.iadd, 1) := by decide +kernel
theorem dL_law_453 : decode cL_law 453 = .ok (.iaload, 1) := by decide +kernel
theorem dL_law_454 : decode cL_law 454 = .ok (.invokevirtual 49, 3) := by decide +kernel
theorem dL_law_457 : decode cL_law 457 = .ok (.if_icmp .eq 852, 3) := by decide +kernel
theorem dL_law_460 : decode cL_law 460 = .ok (.iconst 0, 1) := by decide +kernel
theorem dL_law_461 : decode cL_law 461 = .ok (.ireturn, 1) := by decide +kernel
theorem dL_law_462 : decode cL_law 462 = .ok (.aload_n 1, 1) := by decide +kernel
theorem dL_law_463 : decode cL_law 463 = .ok (.aload_n 0, 1) := by decide +kernel
theorem dL_law_464 : decode cL_law 464 = .ok (.iload_n 3, 1) := by decide +kernel
theorem dL_law_465 : decode cL_law 465 = .ok (.iconst 1, 1) := by decide +kernel
theorem dL_law_466 : decode cL_law 466 = .ok (.iadd, 1) := by decide +kernel
theorem dL_law_467 : decode cL_law 467 = .ok (.iaload, 1) := by decide +kernel
theorem dL_law_468 : decode cL_law 468 = .ok (.invokevirtual 50, 3) := by decide +kernel
theorem dL_law_471 : decode cL_law 471 = .ok (.aload_n 2, 1) := by decide +kernel
theorem dL_law_472 : decode cL_law 472 = .ok (.aload_n 0, 1) := by decide +kernel
theorem dL_law_473 : decode cL_law 473 = .ok (.iload_n 3, 1) := by decide +kernel
theorem dL_law_474 : decode cL_law 474 = .ok (.iconst 1, 1) := by decide +kernel
theorem dL_law_475 : decode cL_law 475 = .ok (.iadd, 1) := by decide +kernel
theorem dL_law_476 : decode cL_law 476 = .ok (.iaload, 1) := by decide +kernel
theorem dL_law_477 : decode cL_law 477 = .ok (.invokevirtual 53, 3) := by decide +kernel
theorem dL_law_480 : decode cL_law 480 = .ok (.if_icmp .eq 829, 3) := by decide +kernel
theorem dL_law_483 : decode cL_law 483 = .ok (.iconst 0, 1) := by decide +kernel
theorem dL_law_484 : decode cL_law 484 = .ok (.ireturn, 1) := by decide +kernel
theorem dL_law_485 : decode cL_law 485 = .ok (.aload_n 1, 1) := by decide +kernel
theorem dL_law_486 : decode cL_law 486 = .ok (.aload_n 0, 1) := by decide +kernel
theorem dL_law_487 : decode cL_law 487 = .ok (.iload_n 3, 1) := by decide +kernel
theorem dL_law_488 : decode cL_law 488 = .ok (.iconst 1, 1) := by decide +kernel
theorem dL_law_489 : decode cL_law 489 = .ok (.iadd, 1) := by decide +kernel
theorem dL_law_490 : decode cL_law 490 = .ok (.iaload, 1) := by decide +kernel
theorem dL_law_491 : decode cL_law 491 = .ok (.invokevirtual 54, 3) := by decide +kernel
theorem dL_law_494 : decode cL_law 494 = .ok (.aload_n 2, 1) := by decide +kernel
theorem dL_law_495 : decode cL_law 495 = .ok (.aload_n 0, 1) := by decide +kernel
theorem dL_law_496 : decode cL_law 496 = .ok (.iload_n 3, 1) := by decide +kernel
theorem dL_law_497 : decode cL_law 497 = .ok (.iconst 1, 1) := by decide +kernel
theorem dL_law_498 : decode cL_law 498 = .ok (.iadd, 1) := by decide +kernel
theorem dL_law_499 : decode cL_law 499 = .ok (.iaload, 1) := by decide +kernel
theorem dL_law_500 : decode cL_law 500 = .ok (.invokevirtual 57, 3) := by decide +kernel
theorem dL_law_503 : decode cL_law 503 = .ok (.if_icmp .eq 806, 3) := by decide +kernel
theorem dL_law_506 : decode cL_law 506 = .ok (.iconst 0, 1) := by decide +kernel
theorem dL_law_507 : decode cL_law 507 = .ok (.ireturn, 1) := by decide +kernel
theorem dL_law_508 : decode cL_law 508 = .ok (.aload_n 1, 1) := by decide +kernel
theorem dL_law_509 : decode cL_law 509 = .ok (.aload_n 0, 1) := by decide +kernel
theorem dL_law_510 : decode cL_law 510 = .ok (.iload_n 3, 1) := by decide +kernel
theorem dL_law_511 : decode cL_law 511 = .ok (.iconst 1, 1) := by decide +kernel
theorem dL_law_512 : decode cL_law 512 = .ok (.iadd, 1) := by decide +kernel
theorem dL_law_513 : decode cL_law 513 = .ok (.iaload, 1) := by decide +kernel
theorem dL_law_514 : decode cL_law 514 = .ok (.aload_n 0, 1) := by decide +kernel
theorem dL_law_515 : decode cL_law 515 = .ok (.iload_n 3, 1) := by decide +kernel
theorem dL_law_516 : decode cL_law 516 = .ok (.iconst 2, 1) := by decide +kernel
theorem dL_law_517 : decode cL_law 517 = .ok (.iadd, 1) := by decide +kernel
theorem dL_law_518 : decode cL_law 518 = .ok (.iaload, 1) := by decide +kernel
theorem dL_law_519 : decode cL_law 519 = .ok (.invokevirtual 58, 3) := by decide +kernel
theorem dL_law_522 : decode cL_law 522 = .ok (.aload_n 2, 1) := by decide +kernel
theorem dL_law_523 : decode cL_law 523 = .ok (.aload_n 0, 1) := by decide +kernel
theorem dL_law_524 : decode cL_law 524 = .ok (.iload_n 3, 1) := by decide +kernel
theorem dL_law_525 : decode cL_law 525 = .ok (.iconst 1, 1) := by decide +kernel
theorem dL_law_526 : decode cL_law 526 = .ok (.iadd, 1) := by decide +kernel
theorem dL_law_527 : decode cL_law 527 = .ok (.iaload, 1) := by decide +kernel
theorem dL_law_528 : decode cL_law 528 = .ok (.aload_n 0, 1) := by decide +kernel
theorem dL_law_529 : decode cL_law 529 = .ok (.iload_n 3, 1) := by decide +kernel
theorem dL_law_530 : decode cL_law 530 = .ok (.iconst 2, 1) := by decide +kernel
theorem dL_law_531 : decode cL_law 531 = .ok (.iadd, 1) := by decide +kernel
theorem dL_law_532 : decode cL_law 532 = .ok (.iaload, 1) := by decide +kernel
theorem dL_law_533 : decode cL_law 533 = .ok (.invokevirtual 62, 3) := by decide +kernel
theorem dL_law_536 : decode cL_law 536 = .ok (.if_icmp .eq 773, 3) := by decide +kernel
theorem dL_law_539 : decode cL_law 539 = .ok (.iconst 0, 1) := by decide +kernel
theorem dL_law_540 : decode cL_law 540 = .ok (.ireturn, 1) := by decide +kernel
theorem dL_law_541 : decode cL_law 541 = .ok (.aload_n 1, 1) := by decide +kernel
theorem dL_law_542 : decode cL_law 542 = .ok (.aload_n 0, 1) := by decide +kernel
theorem dL_law_543 : decode cL_law 543 = .ok (.iload_n 3, 1) := by decide +kernel
theorem dL_law_544 : decode cL_law 544 = .ok (.iconst 1, 1) := by decide +kernel
theorem dL_law_545 : decode cL_law 545 = .ok (.iadd, 1) := by decide +kernel
theorem dL_law_546 : decode cL_law 546 = .ok (.iaload, 1) := by decide +kernel
theorem dL_law_547 : decode cL_law 547 = .ok (.aload_n 0, 1) := by decide +kernel
theorem dL_law_548 : decode cL_law 548 = .ok (.iload_n 3, 1) := by decide +kernel
theorem dL_law_549 : decode cL_law 549 = .ok (.iconst 2, 1) := by decide +kernel
theorem dL_law_550 : decode cL_law 550 = .ok (.iadd, 1) := by decide +kernel
theorem dL_law_551 : decode cL_law 551 = .ok (.iaload, 1) := by decide +kernel
theorem dL_law_552 : decode cL_law 552 = .ok (.aload_n 0, 1) := by decide +kernel
theorem dL_law_553 : decode cL_law 553 = .ok (.iload_n 3, 1) := by decide +kernel
theorem dL_law_554 : decode cL_law 554 = .ok (.iconst 3, 1) := by decide +kernel
theorem dL_law_555 : decode cL_law 555 = .ok (.iadd, 1) := by decide +kernel
theorem dL_law_556 : decode cL_law 556 = .ok (.iaload, 1) := by decide +kernel
theorem dL_law_557 : decode cL_law 557 = .ok (.invokevirtual 63, 3) := by decide +kernel
theorem dL_law_560 : decode cL_law 560 = .ok (.aload_n 2, 1) := by decide +kernel
theorem dL_law_561 : decode cL_law 561 = .ok (.aload_n 0, 1) := by decide +kernel
theorem dL_law_562 : decode cL_law 562 = .ok (.iload_n 3, 1) := by decide +kernel
theorem dL_law_563 : decode cL_law 563 = .ok (.iconst 1, 1) := by decide +kernel
theorem dL_law_564 : decode cL_law 564 = .ok (.iadd, 1) := by decide +kernel
theorem dL_law_565 : decode cL_law 565 = .ok (.iaload, 1) := by decide +kernel
theorem dL_law_566 : decode cL_law 566 = .ok (.aload_n 0, 1) := by decide +kernel
theorem dL_law_567 : decode cL_law 567 = .ok (.iload_n 3, 1) := by decide +kernel
theorem dL_law_568 : decode cL_law 568 = .ok (.iconst 2, 1) := by decide +kernel
theorem dL_law_569 : decode cL_law 569 = .ok (.iadd, 1) := by decide +kernel
theorem dL_law_570 : decode cL_law 570 = .ok (.iaload, 1) := by decide +kernel
theorem dL_law_571 : decode cL_law 571 = .ok (.aload_n 0, 1) := by decide +kernel
theorem dL_law_572 : decode cL_law 572 = .ok (.iload_n 3, 1) := by decide +kernel
theorem dL_law_573 : decode cL_law 573 = .ok (.iconst 3, 1) := by decide +kernel
theorem dL_law_574 : decode cL_law 574 = .ok (.iadd, 1) := by decide +kernel
theorem dL_law_575 : decode cL_law 575 = .ok (.iaload, 1) := by decide +kernel
theorem dL_law_576 : decode cL_law 576 = .ok (.invokevirtual 67, 3) := by decide +kernel
theorem dL_law_579 : decode cL_law 579 = .ok (.if_icmp .eq 730, 3) := by decide +kernel
theorem dL_law_582 : decode cL_law 582 = .ok (.iconst 0, 1) := by decide +kernel
theorem dL_law_583 : decode cL_law 583 = .ok (.ireturn, 1) := by decide +kernel
theorem dL_law_584 : decode cL_law 584 = .ok (.aload_n 1, 1) := by decide +kernel
theorem dL_law_585 : decode cL_law 585 = .ok (.aload_n 0, 1) := by decide +kernel
theorem dL_law_586 : decode cL_law 586 = .ok (.iload_n 3, 1) := by decide +kernel
theorem dL_law_587 : decode cL_law 587 = .ok (.iconst 1, 1) := by decide +kernel
theorem dL_law_588 : decode cL_law 588 = .ok (.iadd, 1) := by decide +kernel
theorem dL_law_589 : decode cL_law 589 = .ok (.iaload, 1) := by decide +kernel
theorem dL_law_590 : decode cL_law 590 = .ok (.aload_n 0, 1) := by decide +kernel
theorem dL_law_591 : decode cL_law 591 = .ok (.iload_n 3, 1) := by decide +kernel
theorem dL_law_592 : decode cL_law 592 = .ok (.iconst 2, 1) := by decide +kernel
theorem dL_law_593 : decode cL_law 593 = .ok (.iadd, 1) := by decide +kernel
theorem dL_law_594 : decode cL_law 594 = .ok (.iaload, 1) := by decide +kernel
theorem dL_law_595 : decode cL_law 595 = .ok (.invokevirtual 68, 3) := by decide +kernel
theorem dL_law_598 : decode cL_law 598 = .ok (.aload_n 2, 1) := by decide +kernel
theorem dL_law_599 : decode cL_law 599 = .ok (.aload_n 0, 1) := by decide +kernel
theorem dL_law_600 : decode cL_law 600 = .ok (.iload_n 3, 1) := by decide +kernel
theorem dL_law_601 : decode cL_law 601 = .ok (.iconst 1, 1) := by decide +kernel
theorem dL_law_602 : decode cL_law 602 = .ok (.iadd, 1) := by decide +kernel
theorem dL_law_603 : decode cL_law 603 = .ok (.iaload, 1) := by decide +kernel
theorem dL_law_604 : decode cL_law 604 = .ok (.aload_n 0, 1) := by decide +kernel
theorem dL_law_605 : decode cL_law 605 = .ok (.iload_n 3, 1) := by decide +kernel
theorem dL_law_606 : decode cL_law 606 = .ok (.iconst 2, 1) := by decide +kernel
theorem dL_law_607 : decode cL_law 607 = .ok (.iadd, 1) := by decide +kernel
theorem dL_law_608 : decode cL_law 608 = .ok (.iaload, 1) := by decide +kernel
theorem dL_law_609 : decode cL_law 609 = .ok (.invokevirtual 71, 3) := by decide +kernel
theorem dL_law_612 : decode cL_law 612 = .ok (.if_icmp .eq 697, 3) := by decide +kernel
theorem dL_law_615 : decode cL_law 615 = .ok (.iconst 0, 1) := by decide +kernel
theorem dL_law_616 : decode cL_law 616 = .ok (.ireturn, 1) := by decide +kernel
theorem dL_law_617 : decode cL_law 617 = .ok (.aload_n 1, 1) := by decide +kernel
theorem dL_law_618 : decode cL_law 618 = .ok (.aload_n 0, 1) := by decide +kernel
theorem dL_law_619 : decode cL_law 619 = .ok (.iload_n 3, 1) := by decide +kernel
theorem dL_law_620 : decode cL_law 620 = .ok (.iconst 1, 1) := by decide +kernel
theorem dL_law_621 : decode cL_law 621 = .ok (.iadd, 1) := by decide +kernel
theorem dL_law_622 : decode cL_law 622 = .ok (.iaload, 1) := by decide +kernel
theorem dL_law_623 : decode cL_law 623 = .ok (.aload_n 0, 1) := by decide +kernel
theorem dL_law_624 : decode cL_law 624 = .ok (.iload_n 3, 1) := by decide +kernel
theorem dL_law_625 : decode cL_law 625 = .ok (.iconst 2, 1) := by decide +kernel
theorem dL_law_626 : decode cL_law 626 = .ok (.iadd, 1) := by decide +kernel
theorem dL_law_627 : decode cL_law 627 = .ok (.iaload, 1) := by decide +kernel
theorem dL_law_628 : decode cL_law 628 = .ok (.invokevirtual 72, 3) := by decide +kernel
theorem dL_law_631 : decode cL_law 631 = .ok (.aload_n 2, 1) := by decide +kernel
theorem dL_law_632 : decode cL_law 632 = .ok (.aload_n 0, 1) := by decide +kernel
theorem dL_law_633 : decode cL_law 633 = .ok (.iload_n 3, 1) := by decide +kernel
theorem dL_law_634 : decode cL_law 634 = .ok (.iconst 1, 1) := by decide +kernel
theorem dL_law_635 : decode cL_law 635 = .ok (.iadd, 1) := by decide +kernel
theorem dL_law_636 : decode cL_law 636 = .ok (.iaload, 1) := by decide +kernel
theorem dL_law_637 : decode cL_law 637 = .ok (.aload_n 0, 1) := by decide +kernel
theorem dL_law_638 : decode cL_law 638 = .ok (.iload_n 3, 1) := by decide +kernel
theorem dL_law_639 : decode cL_law 639 = .ok (.iconst 2, 1) := by decide +kernel
theorem dL_law_640 : decode cL_law 640 = .ok (.iadd, 1) := by decide +kernel
theorem dL_law_641 : decode cL_law 641 = .ok (.iaload, 1) := by decide +kernel
theorem dL_law_642 : decode cL_law 642 = .ok (.invokevirtual 75, 3) := by decide +kernel
theorem dL_law_645 : decode cL_law 645 = .ok (.if_icmp .eq 664, 3) := by decide +kernel
theorem dL_law_648 : decode cL_law 648 = .ok (.iconst 0, 1) := by decide +kernel
theorem dL_law_649 : decode cL_law 649 = .ok (.ireturn, 1) := by decide +kernel
theorem dL_law_650 : decode cL_law 650 = .ok (.aload_n 1, 1) := by decide +kernel
theorem dL_law_651 : decode cL_law 651 = .ok (.aload_n 0, 1) := by decide +kernel
theorem dL_law_652 : decode cL_law 652 = .ok (.iload_n 3, 1) := by decide +kernel
theorem dL_law_653 : decode cL_law 653 = .ok (.iconst 1, 1) := by decide +kernel
theorem dL_law_654 : decode cL_law 654 = .ok (.iadd, 1) := by decide +kernel
theorem dL_law_655 : decode cL_law 655 = .ok (.iaload, 1) := by decide +kernel
theorem dL_law_656 : decode cL_law 656 = .ok (.invokevirtual 76, 3) := by decide +kernel
theorem dL_law_659 : decode cL_law 659 = .ok (.aload_n 2, 1) := by decide +kernel
theorem dL_law_660 : decode cL_law 660 = .ok (.aload_n 0, 1) := by decide +kernel
theorem dL_law_661 : decode cL_law 661 = .ok (.iload_n 3, 1) := by decide +kernel
theorem dL_law_662 : decode cL_law 662 = .ok (.iconst 1, 1) := by decide +kernel
theorem dL_law_663 : decode cL_law 663 = .ok (.iadd, 1) := by decide +kernel
theorem dL_law_664 : decode cL_law 664 = .ok (.iaload, 1) := by decide +kernel
theorem dL_law_665 : decode cL_law 665 = .ok (.invokevirtual 79, 3) := by decide +kernel
theorem dL_law_668 : decode cL_law 668 = .ok (.if_icmp .eq 641, 3) := by decide +kernel
theorem dL_law_671 : decode cL_law 671 = .ok (.iconst 0, 1) := by decide +kernel
theorem dL_law_672 : decode cL_law 672 = .ok (.ireturn, 1) := by decide +kernel
theorem dL_law_673 : decode cL_law 673 = .ok (.aload_n 1, 1) := by decide +kernel
theorem dL_law_674 : decode cL_law 674 = .ok (.aload_n 0, 1) := by decide +kernel
theorem dL_law_675 : decode cL_law 675 = .ok (.iload_n 3, 1) := by decide +kernel
theorem dL_law_676 : decode cL_law 676 = .ok (.iconst 1, 1) := by decide +kernel
theorem dL_law_677 : decode cL_law 677 = .ok (.iadd, 1) := by decide +kernel
theorem dL_law_678 : decode cL_law 678 = .ok (.iaload, 1) := by decide +kernel
theorem dL_law_679 : decode cL_law 679 = .ok (.aload_n 0, 1) := by decide +kernel
theorem dL_law_680 : decode cL_law 680 = .ok (.iload_n 3, 1) := by decide +kernel
theorem dL_law_681 : decode cL_law 681 = .ok (.iconst 2, 1) := by decide +kernel
theorem dL_law_682 : decode cL_law 682 = .ok (.iadd, 1) := by decide +kernel
theorem dL_law_683 : decode cL_law 683 = .ok (.iaload, 1) := by decide +kernel
theorem dL_law_684 : decode cL_law 684 = .ok (.aload_n 0, 1) := by decide +kernel
theorem dL_law_685 : decode cL_law 685 = .ok (.iload_n 3, 1) := by decide +kernel
theorem dL_law_686 : decode cL_law 686 = .ok (.iconst 3, 1) := by decide +kernel
theorem dL_law_687 : decode cL_law 687 = .ok (.iadd, 1) := by decide +kernel
theorem dL_law_688 : decode cL_law 688 = .ok (.iaload, 1) := by decide +kernel
theorem dL_law_689 : decode cL_law 689 = .ok (.aload_n 0, 1) := by decide +kernel
theorem dL_law_690 : decode cL_law 690 = .ok (.iload_n 3, 1) := by decide +kernel
theorem dL_law_691 : decode cL_law 691 = .ok (.iconst 4, 1) := by decide +kernel
theorem dL_law_692 : decode cL_law 692 = .ok (.iadd, 1) := by decide +kernel
theorem dL_law_693 : decode cL_law 693 = .ok (.iaload, 1) := by decide +kernel
theorem dL_law_694 : decode cL_law 694 = .ok (.invokevirtual 80, 3) := by decide +kernel
theorem dL_law_697 : decode cL_law 697 = .ok (.aload_n 2, 1) := by decide +kernel
theorem dL_law_698 : decode cL_law 698 = .ok (.aload_n 0, 1) := by decide +kernel
theorem dL_law_699 : decode cL_law 699 = .ok (.iload_n 3, 1) := by decide +kernel
theorem dL_law_700 : decode cL_law 700 = .ok (.iconst 1, 1) := by decide +kernel
theorem dL_law_701 : decode cL_law 701 = .ok (.iadd, 1) := by decide +kernel
theorem dL_law_702 : decode cL_law 702 = .ok (.iaload, 1) := by decide +kernel
theorem dL_law_703 : decode cL_law 703 = .ok (.aload_n 0, 1) := by decide +kernel
theorem dL_law_704 : decode cL_law 704 = .ok (.iload_n 3, 1) := by decide +kernel
theorem dL_law_705 : decode cL_law 705 = .ok (.iconst 2, 1) := by decide +kernel
theorem dL_law_706 : decode cL_law 706 = .ok (.iadd, 1) := by decide +kernel
theorem dL_law_707 : decode cL_law 707 = .ok (.iaload, 1) := by decide +kernel
theorem dL_law_708 : decode cL_law 708 = .ok (.aload_n 0, 1) := by decide +kernel
theorem dL_law_709 : decode cL_law 709 = .ok (.iload_n 3, 1) := by decide +kernel
theorem dL_law_710 : decode cL_law 710 = .ok (.iconst 3, 1) := by decide +kernel
theorem dL_law_711 : decode cL_law 711 = .ok (.iadd, 1) := by decide +kernel
theorem dL_law_712 : decode cL_law 712 = .ok (.iaload, 1) := by decide +kernel
theorem dL_law_713 : decode cL_law 713 = .ok (.aload_n 0, 1) := by decide +kernel
theorem dL_law_714 : decode cL_law 714 = .ok (.iload_n 3, 1) := by decide +kernel
theorem dL_law_715 : decode cL_law 715 = .ok (.iconst 4, 1) := by decide +kernel
theorem dL_law_716 : decode cL_law 716 = .ok (.iadd, 1) := by decide +kernel
theorem dL_law_717 : decode cL_law 717 = .ok (.iaload, 1) := by decide +kernel
theorem dL_law_718 : decode cL_law 718 = .ok (.invokevirtual 84, 3) := by decide +kernel
theorem dL_law_721 : decode cL_law 721 = .ok (.if_icmp .eq 588, 3) := by decide +kernel
theorem dL_law_724 : decode cL_law 724 = .ok (.iconst 0, 1) := by decide +kernel
theorem dL_law_725 : decode cL_law 725 = .ok (.ireturn, 1) := by decide +kernel
theorem dL_law_726 : decode cL_law 726 = .ok (.aload_n 1, 1) := by decide +kernel
theorem dL_law_727 : decode cL_law 727 = .ok (.aload_n 0, 1) := by decide +kernel
theorem dL_law_728 : decode cL_law 728 = .ok (.iload_n 3, 1) := by decide +kernel
theorem dL_law_729 : decode cL_law 729 = .ok (.iconst 1, 1) := by decide +kernel
theorem dL_law_730 : decode cL_law 730 = .ok (.iadd, 1) := by decide +kernel
theorem dL_law_731 : decode cL_law 731 = .ok (.iaload, 1) := by decide +kernel
theorem dL_law_732 : decode cL_law 732 = .ok (.aload_n 0, 1) := by decide +kernel
theorem dL_law_733 : decode cL_law 733 = .ok (.iload_n 3, 1) := by decide +kernel
theorem dL_law_734 : decode cL_law 734 = .ok (.iconst 2, 1) := by decide +kernel
theorem dL_law_735 : decode cL_law 735 = .ok (.iadd, 1) := by decide +kernel
theorem dL_law_736 : decode cL_law 736 = .ok (.iaload, 1) := by decide +kernel
theorem dL_law_737 : decode cL_law 737 = .ok (.aload_n 0, 1) := by decide +kernel
theorem dL_law_738 : decode cL_law 738 = .ok (.iload_n 3, 1) := by decide +kernel
theorem dL_law_739 : decode cL_law 739 = .ok (.iconst 3, 1) := by decide +kernel
theorem dL_law_740 : decode cL_law 740 = .ok (.iadd, 1) := by decide +kernel
theorem dL_law_741 : decode cL_law 741 = .ok (.iaload, 1) := by decide +kernel
theorem dL_law_742 : decode cL_law 742 = .ok (.aload_n 0, 1) := by decide +kernel
theorem dL_law_743 : decode cL_law 743 = .ok (.iload_n 3, 1) := by decide +kernel
theorem dL_law_744 : decode cL_law 744 = .ok (.iconst 4, 1) := by decide +kernel
theorem dL_law_745 : decode cL_law 745 = .ok (.iadd, 1) := by decide +kernel
theorem dL_law_746 : decode cL_law 746 = .ok (.iaload, 1) := by decide +kernel
theorem dL_law_747 : decode cL_law 747 = .ok (.invokevirtual 85, 3) := by decide +kernel
theorem dL_law_750 : decode cL_law 750 = .ok (.aload_n 2, 1) := by decide +kernel
theorem dL_law_751 : decode cL_law 751 = .ok (.aload_n 0, 1) := by decide +kernel
theorem dL_law_752 : decode cL_law 752 = .ok (.iload_n 3, 1) := by decide +kernel
theorem dL_law_753 : decode cL_law 753 = .ok (.iconst 1, 1) := by decide +kernel
theorem dL_law_754 : decode cL_law 754 = .ok (.iadd, 1) := by decide +kernel
theorem dL_law_755 : decode cL_law 755 = .ok (.iaload, 1) := by decide +kernel
theorem dL_law_756 : decode cL_law 756 = .ok (.aload_n 0, 1) := by decide +kernel
theorem dL_law_757 : decode cL_law 757 = .ok (.iload_n 3, 1) := by decide +kernel
theorem dL_law_758 : decode cL_law 758 = .ok (.iconst 2, 1) := by decide +kernel
theorem dL_law_759 : decode cL_law 759 = .ok (.iadd, 1) := by decide +kernel
theorem dL_law_760 : decode cL_law 760 = .ok (.iaload, 1) := by decide +kernel
theorem dL_law_761 : decode cL_law 761 = .ok (.aload_n 0, 1) := by decide +kernel
theorem dL_law_762 : decode cL_law 762 = .ok (.iload_n 3, 1) := by decide +kernel
theorem dL_law_763 : decode cL_law 763 = .ok (.iconst 3, 1) := by decide +kernel
theorem dL_law_764 : decode cL_law 764 = .ok (.iadd, 1) := by decide +kernel
theorem dL_law_765 : decode cL_law 765 = .ok (.iaload, 1) := by decide +kernel
theorem dL_law_766 : decode cL_law 766 = .ok (.aload_n 0, 1) := by decide +kernel
theorem dL_law_767 : decode cL_law 767 = .ok (.iload_n 3, 1) := by decide +kernel
theorem dL_law_768 : decode cL_law 768 = .ok (.iconst 4, 1) := by decide +kernel
theorem dL_law_769 : decode cL_law 769 = .ok (.iadd, 1) := by decide +kernel
theorem dL_law_770 : decode cL_law 770 = .ok (.iaload, 1) := by decide +kernel
theorem dL_law_771 : decode cL_law 771 = .ok (.invokevirtual 88, 3) := by decide +kernel
theorem dL_law_774 : decode cL_law 774 = .ok (.if_icmp .eq 535, 3) := by decide +kernel
theorem dL_law_777 : decode cL_law 777 = .ok (.iconst 0, 1) := by decide +kernel
theorem dL_law_778 : decode cL_law 778 = .ok (.ireturn, 1) := by decide +kernel
theorem dL_law_779 : decode cL_law 779 = .ok (.aload_n 1, 1) := by decide +kernel
theorem dL_law_780 : decode cL_law 780 = .ok (.aload_n 0, 1) := by decide +kernel
theorem dL_law_781 : decode cL_law 781 = .ok (.iload_n 3, 1) := by decide +kernel
theorem dL_law_782 : decode cL_law 782 = .ok (.iconst 1, 1) := by decide +kernel
theorem dL_law_783 : decode cL_law 783 = .ok (.iadd, 1) := by decide +kernel
theorem dL_law_784 : decode cL_law 784 = .ok (.iaload, 1) := by decide +kernel
theorem dL_law_785 : decode cL_law 785 = .ok (.aload_n 0, 1) := by decide +kernel
theorem dL_law_786 : decode cL_law 786 = .ok (.iload_n 3, 1) := by decide +kernel
theorem dL_law_787 : decode cL_law 787 = .ok (.iconst 2, 1) := by decide +kernel
theorem dL_law_788 : decode cL_law 788 = .ok (.iadd, 1) := by decide +kernel
theorem dL_law_789 : decode cL_law 789 = .ok (.iaload, 1) := by decide +kernel
theorem dL_law_790 : decode cL_law 790 = .ok (.invokevirtual 89, 3) := by decide +kernel
theorem dL_law_793 : decode cL_law 793 = .ok (.aload_n 2, 1) := by decide +kernel
theorem dL_law_794 : decode cL_law 794 = .ok (.aload_n 0, 1) := by decide +kernel
theorem dL_law_795 : decode cL_law 795 = .ok (.iload_n 3, 1) := by decide +kernel
theorem dL_law_796 : decode cL_law 796 = .ok (.iconst 1, 1) := by decide +kernel
theorem dL_law_797 : decode cL_law 797 = .ok (.iadd, 1) := by decide +kernel
theorem dL_law_798 : decode cL_law 798 = .ok (.iaload, 1) := by decide +kernel
theorem dL_law_799 : decode cL_law 799 = .ok (.aload_n 0, 1) := by decide +kernel
theorem dL_law_800 : decode cL_law 800 = .ok (.iload_n 3, 1) := by decide +kernel
theorem dL_law_801 : decode cL_law 801 = .ok (.iconst 2, 1) := by decide +kernel
theorem dL_law_802 : decode cL_law 802 = .ok (.iadd, 1) := by decide +kernel
theorem dL_law_803 : decode cL_law 803 = .ok (.iaload, 1) := by decide +kernel
theorem dL_law_804 : decode cL_law 804 = .ok (.invokevirtual 92, 3) := by decide +kernel
theorem dL_law_807 : decode cL_law 807 = .ok (.if_icmp .eq 502, 3) := by decide +kernel
theorem dL_law_810 : decode cL_law 810 = .ok (.iconst 0, 1) := by decide +kernel
theorem dL_law_811 : decode cL_law 811 = .ok (.ireturn, 1) := by decide +kernel
theorem dL_law_812 : decode cL_law 812 = .ok (.aload_n 1, 1) := by decide +kernel
theorem dL_law_813 : decode cL_law 813 = .ok (.aload_n 0, 1) := by decide +kernel
theorem dL_law_814 : decode cL_law 814 = .ok (.iload_n 3, 1) := by decide +kernel
theorem dL_law_815 : decode cL_law 815 = .ok (.iconst 1, 1) := by decide +kernel
theorem dL_law_816 : decode cL_law 816 = .ok (.iadd, 1) := by decide +kernel
theorem dL_law_817 : decode cL_law 817 = .ok (.iaload, 1) := by decide +kernel
theorem dL_law_818 : decode cL_law 818 = .ok (.aload_n 0, 1) := by decide +kernel
theorem dL_law_819 : decode cL_law 819 = .ok (.iload_n 3, 1) := by decide +kernel
theorem dL_law_820 : decode cL_law 820 = .ok (.iconst 2, 1) := by decide +kernel
theorem dL_law_821 : decode cL_law 821 = .ok (.iadd, 1) := by decide +kernel
theorem dL_law_822 : decode cL_law 822 = .ok (.iaload, 1) := by decide +kernel
theorem dL_law_823 : decode cL_law 823 = .ok (.invokevirtual 93, 3) := by decide +kernel
theorem dL_law_826 : decode cL_law 826 = .ok (.aload_n 2, 1) := by decide +kernel
theorem dL_law_827 : decode cL_law 827 = .ok (.aload_n 0, 1) := by decide +kernel
theorem dL_law_828 : decode cL_law 828 = .ok (.iload_n 3, 1) := by decide +kernel
theorem dL_law_829 : decode cL_law 829 = .ok (.iconst 1, 1) := by decide +kernel
theorem dL_law_830 : decode cL_law 830 = .ok (.iadd, 1) := by decide +kernel
theorem dL_law_831 : decode cL_law 831 = .ok (.iaload, 1) := by decide +kernel
theorem dL_law_832 : decode cL_law 832 = .ok (.aload_n 0, 1) := by decide +kernel
theorem dL_law_833 : decode cL_law 833 = .ok (.iload_n 3, 1) := by decide +kernel
theorem dL_law_834 : decode cL_law 834 = .ok (.iconst 2, 1) := by decide +kernel
theorem dL_law_835 : decode cL_law 835 = .ok (.iadd, 1) := by decide +kernel
theorem dL_law_836 : decode cL_law 836 = .ok (.iaload, 1) := by decide +kernel
theorem dL_law_837 : decode cL_law 837 = .ok (.invokevirtual 96, 3) := by decide +kernel
theorem dL_law_840 : decode cL_law 840 = .ok (.if_icmp .eq 469, 3) := by decide +kernel
theorem dL_law_843 : decode cL_law 843 = .ok (.iconst 0, 1) := by decide +kernel
theorem dL_law_844 : decode cL_law 844 = .ok (.ireturn, 1) := by decide +kernel
theorem dL_law_845 : decode cL_law 845 = .ok (.aload_n 1, 1) := by decide +kernel
theorem dL_law_846 : decode cL_law 846 = .ok (.aload_n 0, 1) := by decide +kernel
theorem dL_law_847 : decode cL_law 847 = .ok (.iload_n 3, 1) := by decide +kernel
theorem dL_law_848 : decode cL_law 848 = .ok (.iconst 1, 1) := by decide +kernel
theorem dL_law_849 : decode cL_law 849 = .ok (.iadd, 1) := by decide +kernel
theorem dL_law_850 : decode cL_law 850 = .ok (.iaload, 1) := by decide +kernel
theorem dL_law_851 : decode cL_law 851 = .ok (.invokevirtual 97, 3) := by decide +kernel
theorem dL_law_854 : decode cL_law 854 = .ok (.aload_n 2, 1) := by decide +kernel
theorem dL_law_855 : decode cL_law 855 = .ok (.aload_n 0, 1) := by decide +kernel
theorem dL_law_856 : decode cL_law 856 = .ok (.iload_n 3, 1) := by decide +kernel
theorem dL_law_857 : decode cL_law 857 = .ok (.iconst 1, 1) := by decide +kernel
theorem dL_law_858 : decode cL_law 858 = .ok (.iadd, 1) := by decide +kernel
theorem dL_law_859 : decode cL_law 859 = .ok (.iaload, 1) := by decide +kernel
theorem dL_law_860 : decode cL_law 860 = .ok (.invokevirtual 100, 3) := by decide +kernel
theorem dL_law_863 : decode cL_law 863 = .ok (.if_icmp .eq 446, 3) := by decide +kernel
theorem dL_law_866 : decode cL_law 866 = .ok (.iconst 0, 1) := by decide +kernel
theorem dL_law_867 : decode cL_law 867 = .ok (.ireturn, 1) := by decide +kernel
theorem dL_law_868 : decode cL_law 868 = .ok (.aload_n 1, 1) := by decide +kernel
theorem dL_law_869 : decode cL_law 869 = .ok (.aload_n 0, 1) := by decide +kernel
theorem dL_law_870 : decode cL_law 870 = .ok (.iload_n 3, 1) := by decide +kernel
theorem dL_law_871 : decode cL_law 871 = .ok (.iconst 1, 1) := by decide +kernel
theorem dL_law_872 : decode cL_law 872 = .ok (.iadd, 1) := by decide +kernel
theorem dL_law_873 : decode cL_law 873 = .ok (.iaload, 1) := by decide +kernel
theorem dL_law_874 : decode cL_law 874 = .ok (.invokevirtual 101, 3) := by decide +kernel
theorem dL_law_877 : decode cL_law 877 = .ok (.aload_n 2, 1) := by decide +kernel
theorem dL_law_878 : decode cL_law 878 = .ok (.aload_n 0, 1) := by decide +kernel
theorem dL_law_879 : decode cL_law 879 = .ok (.iload_n 3, 1) := by decide +kernel
theorem dL_law_880 : decode cL_law 880 = .ok (.iconst 1, 1) := by decide +kernel
theorem dL_law_881 : decode cL_law 881 = .ok (.iadd, 1) := by decide +kernel
theorem dL_law_882 : decode cL_law 882 = .ok (.iaload, 1) := by decide +kernel
theorem dL_law_883 : decode cL_law 883 = .ok (.invokevirtual 104, 3) := by decide +kernel
theorem dL_law_886 : decode cL_law 886 = .ok (.if_icmp .eq 423, 3) := by decide +kernel
theorem dL_law_889 : decode cL_law 889 = .ok (.iconst 0, 1) := by decide +kernel
theorem dL_law_890 : decode cL_law 890 = .ok (.ireturn, 1) := by decide +kernel
theorem dL_law_891 : decode cL_law 891 = .ok (.aload_n 1, 1) := by decide +kernel
theorem dL_law_892 : decode cL_law 892 = .ok (.aload_n 0, 1) := by decide +kernel
theorem dL_law_893 : decode cL_law 893 = .ok (.iload_n 3, 1) := by decide +kernel
theorem dL_law_894 : decode cL_law 894 = .ok (.iconst 1, 1) := by decide +kernel
theorem dL_law_895 : decode cL_law 895 = .ok (.iadd, 1) := by decide +kernel
theorem dL_law_896 : decode cL_law 896 = .ok (.iaload, 1) := by decide +kernel
theorem dL_law_897 : decode cL_law 897 = .ok (.invokevirtual 105, 3) := by decide +kernel
theorem dL_law_900 : decode cL_law 900 = .ok (.aload_n 2, 1) := by decide +kernel
theorem dL_law_901 : decode cL_law 901 = .ok (.aload_n 0, 1) := by decide +kernel
theorem dL_law_902 : decode cL_law 902 = .ok (.iload_n 3, 1) := by decide +kernel
theorem dL_law_903 : decode cL_law 903 = .ok (.iconst 1, 1) := by decide +kernel
theorem dL_law_904 : decode cL_law 904 = .ok (.iadd, 1) := by decide +kernel
theorem dL_law_905 : decode cL_law 905 = .ok (.iaload, 1) := by decide +kernel
theorem dL_law_906 : decode cL_law 906 = .ok (.invokevirtual 108, 3) := by decide +kernel
theorem dL_law_909 : decode cL_law 909 = .ok (.if_icmp .eq 400, 3) := by decide +kernel
theorem dL_law_912 : decode cL_law 912 = .ok (.iconst 0, 1) := by decide +kernel
theorem dL_law_913 : decode cL_law 913 = .ok (.ireturn, 1) := by decide +kernel
theorem dL_law_914 : decode cL_law 914 = .ok (.aload_n 1, 1) := by decide +kernel
theorem dL_law_915 : decode cL_law 915 = .ok (.aload_n 0, 1) := by decide +kernel
theorem dL_law_916 : decode cL_law 916 = .ok (.iload_n 3, 1) := by decide +kernel
theorem dL_law_917 : decode cL_law 917 = .ok (.iconst 1, 1) := by decide +kernel
theorem dL_law_918 : decode cL_law 918 = .ok (.iadd, 1) := by decide +kernel
theorem dL_law_919 : decode cL_law 919 = .ok (.iaload, 1) := by decide +kernel
theorem dL_law_920 : decode cL_law 920 = .ok (.aload_n 0, 1) := by decide +kernel
theorem dL_law_921 : decode cL_law 921 = .ok (.iload_n 3, 1) := by decide +kernel
theorem dL_law_922 : decode cL_law 922 = .ok (.iconst 2, 1) := by decide +kernel
theorem dL_law_923 : decode cL_law 923 = .ok (.iadd, 1) := by decide +kernel
theorem dL_law_924 : decode cL_law 924 = .ok (.iaload, 1) := by decide +kernel
theorem dL_law_925 : decode cL_law 925 = .ok (.aload_n 0, 1) := by decide +kernel
theorem dL_law_926 : decode cL_law 926 = .ok (.iload_n 3, 1) := by decide +kernel
theorem dL_law_927 : decode cL_law 927 = .ok (.iconst 3, 1) := by decide +kernel
theorem dL_law_928 : decode cL_law 928 = .ok (.iadd, 1) := by decide +kernel
theorem dL_law_929 : decode cL_law 929 = .ok (.iaload, 1) := by decide +kernel
theorem dL_law_930 : decode cL_law 930 = .ok (.invokevirtual 109, 3) := by decide +kernel
theorem dL_law_933 : decode cL_law 933 = .ok (.aload_n 2, 1) := by decide +kernel
theorem dL_law_934 : decode cL_law 934 = .ok (.aload_n 0, 1) := by decide +kernel
theorem dL_law_935 : decode cL_law 935 = .ok (.iload_n 3, 1) := by decide +kernel
theorem dL_law_936 : decode cL_law 936 = .ok (.iconst 1, 1) := by decide +kernel
theorem dL_law_937 : decode cL_law 937 = .ok (.iadd, 1) := by decide +kernel
theorem dL_law_938 : decode cL_law 938 = .ok (.iaload, 1) := by decide +kernel
theorem dL_law_939 : decode cL_law 939 = .ok (.aload_n 0, 1) := by decide +kernel
theorem dL_law_940 : decode cL_law 940 = .ok (.iload_n 3, 1) := by decide +kernel
theorem dL_law_941 : decode cL_law 941 = .ok (.iconst 2, 1) := by decide +kernel
theorem dL_law_942 : decode cL_law 942 = .ok (.iadd, 1) := by decide +kernel
theorem dL_law_943 : decode cL_law 943 = .ok (.iaload, 1) := by decide +kernel
theorem dL_law_944 : decode cL_law 944 = .ok (.aload_n 0, 1) := by decide +kernel
theorem dL_law_945 : decode cL_law 945 = .ok (.iload_n 3, 1) := by decide +kernel
theorem dL_law_946 : decode cL_law 946 = .ok (.iconst 3, 1) := by decide +kernel
theorem dL_law_947 : decode cL_law 947 = .ok (.iadd, 1) := by decide +kernel
theorem dL_law_948 : decode cL_law 948 = .ok (.iaload, 1) := by decide +kernel
theorem dL_law_949 : decode cL_law 949 = .ok (.invokevirtual 112, 3) := by decide +kernel
theorem dL_law_952 : decode cL_law 952 = .ok (.if_icmp .eq 357, 3) := by decide +kernel
theorem dL_law_955 : decode cL_law 955 = .ok (.iconst 0, 1) := by decide +kernel
theorem dL_law_956 : decode cL_law 956 = .ok (.ireturn, 1) := by decide +kernel
theorem dL_law_957 : decode cL_law 957 = .ok (.aload_n 1, 1) := by decide +kernel
theorem dL_law_958 : decode cL_law 958 = .ok (.aload_n 0, 1) := by decide +kernel
theorem dL_law_959 : decode cL_law 959 = .ok (.iload_n 3, 1) := by decide +kernel
theorem dL_law_960 : decode cL_law 960 = .ok (.iconst 1, 1) := by decide +kernel
theorem dL_law_961 : decode cL_law 961 = .ok (.iadd, 1) := by decide +kernel
theorem dL_law_962 : decode cL_law 962 = .ok (.iaload, 1) := by decide +kernel
theorem dL_law_963 : decode cL_law 963 = .ok (.aload_n 0, 1) := by decide +kernel
theorem dL_law_964 : decode cL_law 964 = .ok (.iload_n 3, 1) := by decide +kernel
theorem dL_law_965 : decode cL_law 965 = .ok (.iconst 2, 1) := by decide +kernel
theorem dL_law_966 : decode cL_law 966 = .ok (.iadd, 1) := by decide +kernel
theorem dL_law_967 : decode cL_law 967 = .ok (.iaload, 1) := by decide +kernel
theorem dL_law_968 : decode cL_law 968 = .ok (.aload_n 0, 1) := by decide +kernel
theorem dL_law_969 : decode cL_law 969 = .ok (.iload_n 3, 1) := by decide +kernel
theorem dL_law_970 : decode cL_law 970 = .ok (.iconst 3, 1) := by decide +kernel
theorem dL_law_971 : decode cL_law 971 = .ok (.iadd, 1) := by decide +kernel
theorem dL_law_972 : decode cL_law 972 = .ok (.iaload, 1) := by decide +kernel
theorem dL_law_973 : decode cL_law 973 = .ok (.invokevirtual 113, 3) := by decide +kernel
theorem dL_law_976 : decode cL_law 976 = .ok (.aload_n 2, 1) := by decide +kernel
theorem dL_law_977 : decode cL_law 977 = .ok (.aload_n 0, 1) := by decide +kernel
theorem dL_law_978 : decode cL_law 978 = .ok (.iload_n 3, 1) := by decide +kernel
theorem dL_law_979 : decode cL_law 979 = .ok (.iconst 1, 1) := by decide +kernel
theorem dL_law_980 : decode cL_law 980 = .ok (.iadd, 1) := by decide +kernel
theorem dL_law_981 : decode cL_law 981 = .ok (.iaload, 1) := by decide +kernel
theorem dL_law_982 : decode cL_law 982 = .ok (.aload_n 0, 1) := by decide +kernel
theorem dL_law_983 : decode cL_law 983 = .ok (.iload_n 3, 1) := by decide +kernel
theorem dL_law_984 : decode cL_law 984 = .ok (.iconst 2, 1) := by decide +kernel
theorem dL_law_985 : decode cL_law 985 = .ok (.iadd, 1) := by decide +kernel
theorem dL_law_986 : decode cL_law 986 = .ok (.iaload, 1) := by decide +kernel
theorem dL_law_987 : decode cL_law 987 = .ok (.aload_n 0, 1) := by decide +kernel
theorem dL_law_988 : decode cL_law 988 = .ok (.iload_n 3, 1) := by decide +kernel
theorem dL_law_989 : decode cL_law 989 = .ok (.iconst 3, 1) := by decide +kernel
theorem dL_law_990 : decode cL_law 990 = .ok (.iadd, 1) := by decide +kernel
theorem dL_law_991 : decode cL_law 991 = .ok (.iaload, 1) := by decide +kernel
theorem dL_law_992 : decode cL_law 992 = .ok (.invokevirtual 116, 3) := by decide +kernel
theorem dL_law_995 : decode cL_law 995 = .ok (.if_icmp .eq 314, 3) := by decide +kernel
theorem dL_law_998 : decode cL_law 998 = .ok (.iconst 0, 1) := by decide +kernel
theorem dL_law_999 : decode cL_law 999 = .ok (.ireturn, 1) := by decide +kernel
theorem dL_law_1000 : decode cL_law 1000 = .ok (.aload_n 1, 1) := by decide +kernel
theorem dL_law_1001 : decode cL_law 1001 = .ok (.aload_n 0, 1) := by decide +kernel
theorem dL_law_1002 : decode cL_law 1002 = .ok (.iload_n 3, 1) := by decide +kernel
theorem dL_law_1003 : decode cL_law 1003 = .ok (.iconst 1, 1) := by decide +kernel
theorem dL_law_1004 : decode cL_law 1004 = .ok (.iadd, 1) := by decide +kernel
theorem dL_law_1005 : decode cL_law 1005 = .ok (.iaload, 1) := by decide +kernel
theorem dL_law_1006 : decode cL_law 1006 = .ok (.aload_n 0, 1) := by decide +kernel
theorem dL_law_1007 : decode cL_law 1007 = .ok (.iload_n 3, 1) := by decide +kernel
theorem dL_law_1008 : decode cL_law 1008 = .ok (.iconst 2, 1) := by decide +kernel
theorem dL_law_1009 : decode cL_law 1009 = .ok (.iadd, 1) := by decide +kernel
theorem dL_law_1010 : decode cL_law 1010 = .ok (.iaload, 1) := by decide +kernel
theorem dL_law_1011 : decode cL_law 1011 = .ok (.invokevirtual 117, 3) := by decide +kernel
theorem dL_law_1014 : decode cL_law 1014 = .ok (.aload_n 2, 1) := by decide +kernel
theorem dL_law_1015 : decode cL_law 1015 = .ok (.aload_n 0, 1) := by decide +kernel
theorem dL_law_1016 : decode cL_law 1016 = .ok (.iload_n 3, 1) := by decide +kernel
theorem dL_law_1017 : decode cL_law 1017 = .ok (.iconst 1, 1) := by decide +kernel
theorem dL_law_1018 : decode cL_law 1018 = .ok (.iadd, 1) := by decide +kernel
theorem dL_law_1019 : decode cL_law 1019 = .ok (.iaload, 1) := by decide +kernel
theorem dL_law_1020 : decode cL_law 1020 = .ok (.aload_n 0, 1) := by decide +kernel
theorem dL_law_1021 : decode cL_law 1021 = .ok (.iload_n 3, 1) := by decide +kernel
theorem dL_law_1022 : decode cL_law 1022 = .ok (.iconst 2, 1) := by decide +kernel
theorem dL_law_1023 : decode cL_law 1023 = .ok (.iadd, 1) := by decide +kernel
theorem dL_law_1024 : decode cL_law 1024 = .ok (.iaload, 1) := by decide +kernel
theorem dL_law_1025 : decode cL_law 1025 = .ok (.invokevirtual 120, 3) := by decide +kernel
theorem dL_law_1028 : decode cL_law 1028 = .ok (.if_icmp .eq 281, 3) := by decide +kernel
theorem dL_law_1031 : decode cL_law 1031 = .ok (.iconst 0, 1) := by decide +kernel
theorem dL_law_1032 : decode cL_law 1032 = .ok (.ireturn, 1) := by decide +kernel
theorem dL_law_1033 : decode cL_law 1033 = .ok (.aload_n 1, 1) := by decide +kernel
theorem dL_law_1034 : decode cL_law 1034 = .ok (.aload_n 0, 1) := by decide +kernel
theorem dL_law_1035 : decode cL_law 1035 = .ok (.iload_n 3, 1) := by decide +kernel
theorem dL_law_1036 : decode cL_law 1036 = .ok (.iconst 1, 1) := by decide +kernel
theorem dL_law_1037 : decode cL_law 1037 = .ok (.iadd, 1) := by decide +kernel
theorem dL_law_1038 : decode cL_law 1038 = .ok (.iaload, 1) := by decide +kernel
theorem dL_law_1039 : decode cL_law 1039 = .ok (.aload_n 0, 1) := by decide +kernel
theorem dL_law_1040 : decode cL_law 1040 = .ok (.iload_n 3, 1) := by decide +kernel
theorem dL_law_1041 : decode cL_law 1041 = .ok (.iconst 2, 1) := by decide +kernel
theorem dL_law_1042 : decode cL_law 1042 = .ok (.iadd, 1) := by decide +kernel
theorem dL_law_1043 : decode cL_law 1043 = .ok (.iaload, 1) := by decide +kernel
theorem dL_law_1044 : decode cL_law 1044 = .ok (.invokevirtual 121, 3) := by decide +kernel
theorem dL_law_1047 : decode cL_law 1047 = .ok (.aload_n 2, 1) := by decide +kernel
theorem dL_law_1048 : decode cL_law 1048 = .ok (.aload_n 0, 1) := by decide +kernel
theorem dL_law_1049 : decode cL_law 1049 = .ok (.iload_n 3, 1) := by decide +kernel
theorem dL_law_1050 : decode cL_law 1050 = .ok (.iconst 1, 1) := by decide +kernel
theorem dL_law_1051 : decode cL_law 1051 = .ok (.iadd, 1) := by decide +kernel
theorem dL_law_1052 : decode cL_law 1052 = .ok (.iaload, 1) := by decide +kernel
theorem dL_law_1053 : decode cL_law 1053 = .ok (.aload_n 0, 1) := by decide +kernel
theorem dL_law_1054 : decode cL_law 1054 = .ok (.iload_n 3, 1) := by decide +kernel
theorem dL_law_1055 : decode cL_law 1055 = .ok (.iconst 2, 1) := by decide +kernel
theorem dL_law_1056 : decode cL_law 1056 = .ok (.iadd, 1) := by decide +kernel
theorem dL_law_1057 : decode cL_law 1057 = .ok (.iaload, 1) := by decide +kernel
theorem dL_law_1058 : decode cL_law 1058 = .ok (.invokevirtual 124, 3) := by decide +kernel
theorem dL_law_1061 : decode cL_law 1061 = .ok (.if_icmp .eq 248, 3) := by decide +kernel
theorem dL_law_1064 : decode cL_law 1064 = .ok (.iconst 0, 1) := by decide +kernel
theorem dL_law_1065 : decode cL_law 1065 = .ok (.ireturn, 1) := by decide +kernel
theorem dL_law_1066 : decode cL_law 1066 = .ok (.aload_n 1, 1) := by decide +kernel
theorem dL_law_1067 : decode cL_law 1067 = .ok (.aload_n 0, 1) := by decide +kernel
theorem dL_law_1068 : decode cL_law 1068 = .ok (.iload_n 3, 1) := by decide +kernel
theorem dL_law_1069 : decode cL_law 1069 = .ok (.iconst 1, 1) := by decide +kernel
theorem dL_law_1070 : decode cL_law 1070 = .ok (.iadd, 1) := by decide +kernel
theorem dL_law_1071 : decode cL_law 1071 = .ok (.iaload, 1) := by decide +kernel
theorem dL_law_1072 : decode cL_law 1072 = .ok (.invokevirtual 125, 3) := by decide +kernel
theorem dL_law_1075 : decode cL_law 1075 = .ok (.aload_n 2, 1) := by decide +kernel
theorem dL_law_1076 : decode cL_law 1076 = .ok (.aload_n 0, 1) := by decide +kernel
theorem dL_law_1077 : decode cL_law 1077 = .ok (.iload_n 3, 1) := by decide +kernel
theorem dL_law_1078 : decode cL_law 1078 = .ok (.iconst 1, 1) := by decide +kernel
theorem dL_law_1079 : decode cL_law 1079 = .ok (.iadd, 1) := by decide +kernel
theorem dL_law_1080 : decode cL_law 1080 = .ok (.iaload, 1) := by decide +kernel
theorem dL_law_1081 : decode cL_law 1081 = .ok (.invokevirtual 128, 3) := by decide +kernel
theorem dL_law_1084 : decode cL_law 1084 = .ok (.if_icmp .eq 225, 3) := by decide +kernel
theorem dL_law_1087 : decode cL_law 1087 = .ok (.iconst 0, 1) := by decide +kernel
theorem dL_law_1088 : decode cL_law 1088 = .ok (.ireturn, 1) := by decide +kernel
theorem dL_law_1089 : decode cL_law 1089 = .ok (.aload_n 1, 1) := by decide +kernel
theorem dL_law_1090 : decode cL_law 1090 = .ok (.aload_n 0, 1) := by decide +kernel
theorem dL_law_1091 : decode cL_law 1091 = .ok (.iload_n 3, 1) := by decide +kernel
theorem dL_law_1092 : decode cL_law 1092 = .ok (.iconst 1, 1) := by decide +kernel
theorem dL_law_1093 : decode cL_law 1093 = .ok (.iadd, 1) := by decide +kernel
theorem dL_law_1094 : decode cL_law 1094 = .ok (.iaload, 1) := by decide +kernel
theorem dL_law_1095 : decode cL_law 1095 = .ok (.aload_n 0, 1) := by decide +kernel
theorem dL_law_1096 : decode cL_law 1096 = .ok (.iload_n 3, 1) := by decide +kernel
theorem dL_law_1097 : decode cL_law 1097 = .ok (.iconst 2, 1) := by decide +kernel
theorem dL_law_1098 : decode cL_law 1098 = .ok (.iadd, 1) := by decide +kernel
theorem dL_law_1099 : decode cL_law 1099 = .ok (.iaload, 1) := by decide +kernel
theorem dL_law_1100 : decode cL_law 1100 = .ok (.invokevirtual 129, 3) := by decide +kernel
theorem dL_law_1103 : decode cL_law 1103 = .ok (.aload_n 2, 1) := by decide +kernel
theorem dL_law_1104 : decode cL_law 1104 = .ok (.aload_n 0, 1) := by decide +kernel
theorem dL_law_1105 : decode cL_law 1105 = .ok (.iload_n 3, 1) := by decide +kernel
theorem dL_law_1106 : decode cL_law 1106 = .ok (.iconst 1, 1) := by decide +kernel
theorem dL_law_1107 : decode cL_law 1107 = .ok (.iadd, 1) := by decide +kernel
theorem dL_law_1108 : decode cL_law 1108 = .ok (.iaload, 1) := by decide +kernel
theorem dL_law_1109 : decode cL_law 1109 = .ok (.aload_n 0, 1) := by decide +kernel
theorem dL_law_1110 : decode cL_law 1110 = .ok (.iload_n 3, 1) := by decide +kernel
theorem dL_law_1111 : decode cL_law 1111 = .ok (.iconst 2, 1) := by decide +kernel
theorem dL_law_1112 : decode cL_law 1112 = .ok (.iadd, 1) := by decide +kernel
theorem dL_law_1113 : decode cL_law 1113 = .ok (.iaload, 1) := by decide +kernel
theorem dL_law_1114 : decode cL_law 1114 = .ok (.invokevirtual 132, 3) := by decide +kernel
theorem dL_law_1117 : decode cL_law 1117 = .ok (.if_icmp .eq 192, 3) := by decide +kernel
theorem dL_law_1120 : decode cL_law 1120 = .ok (.iconst 0, 1) := by decide +kernel
theorem dL_law_1121 : decode cL_law 1121 = .ok (.ireturn, 1) := by decide +kernel
theorem dL_law_1122 : decode cL_law 1122 = .ok (.aload_n 1, 1) := by decide +kernel
theorem dL_law_1123 : decode cL_law 1123 = .ok (.invokevirtual 133, 3) := by decide +kernel
theorem dL_law_1126 : decode cL_law 1126 = .ok (.aload_n 2, 1) := by decide +kernel
theorem dL_law_1127 : decode cL_law 1127 = .ok (.invokevirtual 137, 3) := by decide +kernel
theorem dL_law_1130 : decode cL_law 1130 = .ok (.if_icmp .eq 179, 3) := by decide +kernel
theorem dL_law_1133 : decode cL_law 1133 = .ok (.iconst 0, 1) := by decide +kernel
theorem dL_law_1134 : decode cL_law 1134 = .ok (.ireturn, 1) := by decide +kernel
theorem dL_law_1135 : decode cL_law 1135 = .ok (.aload_n 1, 1) := by decide +kernel
theorem dL_law_1136 : decode cL_law 1136 = .ok (.aload_n 0, 1) := by decide +kernel
theorem dL_law_1137 : decode cL_law 1137 = .ok (.iload_n 3, 1) := by decide +kernel
theorem dL_law_1138 : decode cL_law 1138 = .ok (.iconst 1, 1) := by decide +kernel
theorem dL_law_1139 : decode cL_law 1139 = .ok (.iadd, 1) := by decide +kernel
theorem dL_law_1140 : decode cL_law 1140 = .ok (.iaload, 1) := by decide +kernel
theorem dL_law_1141 : decode cL_law 1141 = .ok (.aload_n 0, 1) := by decide +kernel
theorem dL_law_1142 : decode cL_law 1142 = .ok (.iload_n 3, 1) := by decide +kernel
theorem dL_law_1143 : decode cL_law 1143 = .ok (.iconst 2, 1) := by decide +kernel
theorem dL_law_1144 : decode cL_law 1144 = .ok (.iadd, 1) := by decide +kernel
theorem dL_law_1145 : decode cL_law 1145 = .ok (.iaload, 1) := by decide +kernel
theorem dL_law_1146 : decode cL_law 1146 = .ok (.invokevirtual 138, 3) := by decide +kernel
theorem dL_law_1149 : decode cL_law 1149 = .ok (.aload_n 2, 1) := by decide +kernel
theorem dL_law_1150 : decode cL_law 1150 = .ok (.aload_n 0, 1) := by decide +kernel
theorem dL_law_1151 : decode cL_law 1151 = .ok (.iload_n 3, 1) := by decide +kernel
theorem dL_law_1152 : decode cL_law 1152 = .ok (.iconst 1, 1) := by decide +kernel
theorem dL_law_1153 : decode cL_law 1153 = .ok (.iadd, 1) := by decide +kernel
theorem dL_law_1154 : decode cL_law 1154 = .ok (.iaload, 1) := by decide +kernel
theorem dL_law_1155 : decode cL_law 1155 = .ok (.aload_n 0, 1) := by decide +kernel
theorem dL_law_1156 : decode cL_law 1156 = .ok (.iload_n 3, 1) := by decide +kernel
theorem dL_law_1157 : decode cL_law 1157 = .ok (.iconst 2, 1) := by decide +kernel
theorem dL_law_1158 : decode cL_law 1158 = .ok (.iadd, 1) := by decide +kernel
theorem dL_law_1159 : decode cL_law 1159 = .ok (.iaload, 1) := by decide +kernel
theorem dL_law_1160 : decode cL_law 1160 = .ok (.invokevirtual 141, 3) := by decide +kernel
theorem dL_law_1163 : decode cL_law 1163 = .ok (.if_icmp .eq 146, 3) := by decide +kernel
theorem dL_law_1166 : decode cL_law 1166 = .ok (.iconst 0, 1) := by decide +kernel
theorem dL_law_1167 : decode cL_law 1167 = .ok (.ireturn, 1) := by decide +kernel
theorem dL_law_1168 : decode cL_law 1168 = .ok (.aload_n 1, 1) := by decide +kernel
theorem dL_law_1169 : decode cL_law 1169 = .ok (.aload_n 0, 1) := by decide +kernel
theorem dL_law_1170 : decode cL_law 1170 = .ok (.iload_n 3, 1) := by decide +kernel
theorem dL_law_1171 : decode cL_law 1171 = .ok (.iconst 1, 1) := by decide +kernel
theorem dL_law_1172 : decode cL_law 1172 = .ok (.iadd, 1) := by decide +kernel
theorem dL_law_1173 : decode cL_law 1173 = .ok (.iaload, 1) := by decide +kernel
theorem dL_law_1174 : decode cL_law 1174 = .ok (.invokevirtual 142, 3) := by decide +kernel
theorem dL_law_1177 : decode cL_law 1177 = .ok (.aload_n 2, 1) := by decide +kernel
theorem dL_law_1178 : decode cL_law 1178 = .ok (.aload_n 0, 1) := by decide +kernel
theorem dL_law_1179 : decode cL_law 1179 = .ok (.iload_n 3, 1) := by decide +kernel
theorem dL_law_1180 : decode cL_law 1180 = .ok (.iconst 1, 1) := by decide +kernel
theorem dL_law_1181 : decode cL_law 1181 = .ok (.iadd, 1) := by decide +kernel
theorem dL_law_1182 : decode cL_law 1182 = .ok (.iaload, 1) := by decide +kernel
theorem dL_law_1183 : decode cL_law 1183 = .ok (.invokevirtual 145, 3) := by decide +kernel
theorem dL_law_1186 : decode cL_law 1186 = .ok (.if_icmp .eq 123, 3) := by decide +kernel
theorem dL_law_1189 : decode cL_law 1189 = .ok (.iconst 0, 1) := by decide +kernel
theorem dL_law_1190 : decode cL_law 1190 = .ok (.ireturn, 1) := by decide +kernel
theorem dL_law_1191 : decode cL_law 1191 = .ok (.aload_n 1, 1) := by decide +kernel
theorem dL_law_1192 : decode cL_law 1192 = .ok (.aload_n 0, 1) := by decide +kernel
theorem dL_law_1193 : decode cL_law 1193 = .ok (.iload_n 3, 1) := by decide +kernel
theorem dL_law_1194 : decode cL_law 1194 = .ok (.iconst 1, 1) := by decide +kernel
theorem dL_law_1195 : decode cL_law 1195 = .ok (.iadd, 1) := by decide +kernel
theorem dL_law_1196 : decode cL_law 1196 = .ok (.iaload, 1) := by decide +kernel
theorem dL_law_1197 : decode cL_law 1197 = .ok (.aload_n 0, 1) := by decide +kernel
theorem dL_law_1198 : decode cL_law 1198 = .ok (.iload_n 3, 1) := by decide +kernel
theorem dL_law_1199 : decode cL_law 1199 = .ok (.iconst 2, 1) := by decide +kernel
theorem dL_law_1200 : decode cL_law 1200 = .ok (.iadd, 1) := by decide +kernel
theorem dL_law_1201 : decode cL_law 1201 = .ok (.iaload, 1) := by decide +kernel
theorem dL_law_1202 : decode cL_law 1202 = .ok (.aload_n 0, 1) := by decide +kernel
theorem dL_law_1203 : decode cL_law 1203 = .ok (.iload_n 3, 1) := by decide +kernel
theorem dL_law_1204 : decode cL_law 1204 = .ok (.iconst 3, 1) := by decide +kernel
theorem dL_law_1205 : decode cL_law 1205 = .ok (.iadd, 1) := by decide +kernel
theorem dL_law_1206 : decode cL_law 1206 = .ok (.iaload, 1) := by decide +kernel
theorem dL_law_1207 : decode cL_law 1207 = .ok (.invokevirtual 146, 3) := by decide +kernel
theorem dL_law_1210 : decode cL_law 1210 = .ok (.aload_n 2, 1) := by decide +kernel
theorem dL_law_1211 : decode cL_law 1211 = .ok (.aload_n 0, 1) := by decide +kernel
theorem dL_law_1212 : decode cL_law 1212 = .ok (.iload_n 3, 1) := by decide +kernel
theorem dL_law_1213 : decode cL_law 1213 = .ok (.iconst 1, 1) := by decide +kernel
theorem dL_law_1214 : decode cL_law 1214 = .ok (.iadd, 1) := by decide +kernel
theorem dL_law_1215 : decode cL_law 1215 = .ok (.iaload, 1) := by decide +kernel
theorem dL_law_1216 : decode cL_law 1216 = .ok (.aload_n 0, 1) := by decide +kernel
theorem dL_law_1217 : decode cL_law 1217 = .ok (.iload_n 3, 1) := by decide +kernel
theorem dL_law_1218 : decode cL_law 1218 = .ok (.iconst 2, 1) := by decide +kernel
theorem dL_law_1219 : decode cL_law 1219 = .ok (.iadd, 1) := by decide +kernel
theorem dL_law_1220 : decode cL_law 1220 = .ok (.iaload, 1) := by decide +kernel
theorem dL_law_1221 : decode cL_law 1221 = .ok (.aload_n 0, 1) := by decide +kernel
theorem dL_law_1222 : decode cL_law 1222 = .ok (.iload_n 3, 1) := by decide +kernel
theorem dL_law_1223 : decode cL_law 1223 = .ok (.iconst 3, 1) := by decide +kernel
theorem dL_law_1224 : decode cL_law 1224 = .ok (.iadd, 1) := by decide +kernel
theorem dL_law_1225 : decode cL_law 1225 = .ok (.iaload, 1) := by decide +kernel
theorem dL_law_1226 : decode cL_law 1226 = .ok (.invokevirtual 149, 3) := by decide +kernel
theorem dL_law_1229 : decode cL_law 1229 = .ok (.if_icmp .eq 80, 3) := by decide +kernel
theorem dL_law_1232 : decode cL_law 1232 = .ok (.iconst 0, 1) := by decide +kernel
theorem dL_law_1233 : decode cL_law 1233 = .ok (.ireturn, 1) := by decide +kernel
theorem dL_law_1234 : decode cL_law 1234 = .ok (.aload_n 1, 1) := by decide +kernel
theorem dL_law_1235 : decode cL_law 1235 = .ok (.invokevirtual 150, 3) := by decide +kernel
theorem dL_law_1238 : decode cL_law 1238 = .ok (.aload_n 2, 1) := by decide +kernel
theorem dL_law_1239 : decode cL_law 1239 = .ok (.invokevirtual 154, 3) := by decide +kernel
theorem dL_law_1242 : decode cL_law 1242 = .ok (.if_icmp .eq 67, 3) := by decide +kernel
theorem dL_law_1245 : decode cL_law 1245 = .ok (.iconst 0, 1) := by decide +kernel
theorem dL_law_1246 : decode cL_law 1246 = .ok (.ireturn, 1) := by decide +kernel
theorem dL_law_1247 : decode cL_law 1247 = .ok (.aload_n 1, 1) := by decide +kernel
theorem dL_law_1248 : decode cL_law 1248 = .ok (.aload_n 0, 1) := by decide +kernel
theorem dL_law_1249 : decode cL_law 1249 = .ok (.iload_n 3, 1) := by decide +kernel
theorem dL_law_1250 : decode cL_law 1250 = .ok (.iconst 1, 1) := by decide +kernel
theorem dL_law_1251 : decode cL_law 1251 = .ok (.iadd, 1) := by decide +kernel
theorem dL_law_1252 : decode cL_law 1252 = .ok (.iaload, 1) := by decide +kernel
theorem dL_law_1253 : decode cL_law 1253 = .ok (.ifCond .eq 7, 3) := by decide +kernel
theorem dL_law_1256 : decode cL_law 1256 = .ok (.iconst 1, 1) := by decide +kernel
theorem dL_law_1257 : decode cL_law 1257 = .ok (.goto 4, 3) := by decide +kernel
theorem dL_law_1260 : decode cL_law 1260 = .ok (.iconst 0, 1) := by decide +kernel
theorem dL_law_1261 : decode cL_law 1261 = .ok (.invokevirtual 155, 3) := by decide +kernel
theorem dL_law_1264 : decode cL_law 1264 = .ok (.aload_n 2, 1) := by decide +kernel
theorem dL_law_1265 : decode cL_law 1265 = .ok (.aload_n 0, 1) := by decide +kernel
theorem dL_law_1266 : decode cL_law 1266 = .ok (.iload_n 3, 1) := by decide +kernel
theorem dL_law_1267 : decode cL_law 1267 = .ok (.iconst 1, 1) := by decide +kernel
theorem dL_law_1268 : decode cL_law 1268 = .ok (.iadd, 1) := by decide +kernel
theorem dL_law_1269 : decode cL_law 1269 = .ok (.iaload, 1) := by decide +kernel
theorem dL_law_1270 : decode cL_law 1270 = .ok (.ifCond .eq 7, 3) := by decide +kernel
theorem dL_law_1273 : decode cL_law 1273 = .ok (.iconst 1, 1) := by decide +kernel
theorem dL_law_1274 : decode cL_law 1274 = .ok (.goto 4, 3) := by decide +kernel
theorem dL_law_1277 : decode cL_law 1277 = .ok (.iconst 0, 1) := by decide +kernel
theorem dL_law_1278 : decode cL_law 1278 = .ok (.invokevirtual 159, 3) := by decide +kernel
theorem dL_law_1281 : decode cL_law 1281 = .ok (.if_icmp .eq 28, 3) := by decide +kernel
theorem dL_law_1284 : decode cL_law 1284 = .ok (.iconst 0, 1) := by decide +kernel
theorem dL_law_1285 : decode cL_law 1285 = .ok (.ireturn, 1) := by decide +kernel
theorem dL_law_1286 : decode cL_law 1286 = .ok (.aload_n 1, 1) := by decide +kernel
theorem dL_law_1287 : decode cL_law 1287 = .ok (.aload_n 0, 1) := by decide +kernel
theorem dL_law_1288 : decode cL_law 1288 = .ok (.iload_n 3, 1) := by decide +kernel
theorem dL_law_1289 : decode cL_law 1289 = .ok (.iconst 1, 1) := by decide +kernel
theorem dL_law_1290 : decode cL_law 1290 = .ok (.iadd, 1) := by decide +kernel
theorem dL_law_1291 : decode cL_law 1291 = .ok (.iaload, 1) := by decide +kernel
theorem dL_law_1292 : decode cL_law 1292 = .ok (.invokevirtual 160, 3) := by decide +kernel
theorem dL_law_1295 : decode cL_law 1295 = .ok (.aload_n 2, 1) := by decide +kernel
theorem dL_law_1296 : decode cL_law 1296 = .ok (.aload_n 0, 1) := by decide +kernel
theorem dL_law_1297 : decode cL_law 1297 = .ok (.iload_n 3, 1) := by decide +kernel
theorem dL_law_1298 : decode cL_law 1298 = .ok (.iconst 1, 1) := by decide +kernel
theorem dL_law_1299 : decode cL_law 1299 = .ok (.iadd, 1) := by decide +kernel
theorem dL_law_1300 : decode cL_law 1300 = .ok (.iaload, 1) := by decide +kernel
theorem dL_law_1301 : decode cL_law 1301 = .ok (.invokevirtual 163, 3) := by decide +kernel
theorem dL_law_1304 : decode cL_law 1304 = .ok (.if_icmp .eq 5, 3) := by decide +kernel
theorem dL_law_1307 : decode cL_law 1307 = .ok (.iconst 0, 1) := by decide +kernel
theorem dL_law_1308 : decode cL_law 1308 = .ok (.ireturn, 1) := by decide +kernel
theorem dL_law_1309 : decode cL_law 1309 = .ok (.iinc 3 6, 3) := by decide +kernel
theorem dL_law_1312 : decode cL_law 1312 = .ok (.goto (-1294), 3) := by decide +kernel
theorem dL_law_1315 : decode cL_law 1315 = .ok (.iconst 1, 1) := by decide +kernel
theorem dL_law_1316 : decode cL_law 1316 = .ok (.ireturn, 1) := by decide +kernel
